section
variable {W S R O : Int32} {mem ops oa ob len st pc reg res fp bv yb hb att ca co cn : Nat → Int32} {c : Nat}
theorem ke_d4 {m : Nat} (hm : m < 64) : nI m / 4 = nI (m / 4) := pk_div (d := 4) (by omega) (by decide) (by decide)
theorem ke_n4 : ¬ (4 : Int32) = 0 := by decide
theorem ke_X65o {post : Int32 → St2 → Prop} {d m l : Nat} {z : Int32} {p q i L : Nat} {b : Int32} (hc : c < 4) (ho : ops (c * 16 + i) = nI p) (eq : oa (c * 16 + i) = nI q) (eb : ob (c * 16 + i) = b) (hi : pc c = nI i) (hL : len c = nI L) (hL16 : L ≤ 16) (hiL : i < L) (hok : ke_Ok (nI p) (nI q) b) (hp9 : p < 9) (hq4 : q < 4) (hpp : p = 1 ∨ p = 2 ∨ p = 5 ∨ p = 6) (hS : S = nI d) (h1 : 1 ≤ d) (h4 : d ≤ 4) (hm : m = ke_ad p b c reg) (hl : l = m / 4) (hov : ke_ov W d fp c l) (hp : post 5 (W, S, R, O, mem, ops, oa, ob, len, upd st c (ke_as R 2 (att c + 1)), upd pc c 0, ke_fill reg (c * 4) 4, res, ke_fill fp (c * 17) 17, bv, ke_fill hb (c * 64) 64, upd att c (att c + 1), upd ca c 2, upd co c 0, upd cn (c * 3 + 2) (cn (c * 3 + 2) + 1))) : wX_executeSpeculatively_65 post (nI c) (nI (c * 16 + i)) z W S R O mem ops oa ob len st pc reg res fp bv hb att ca co cn := by
  have hm64 : m < 64 := by rw [hm]; exact ke_ad_lt c reg hok hpp
  unfold wX_executeSpeculatively_65
  refine ke_Xad hc (by omega) ho eb hok hpp ?_
  rw [← hm]
  refine ⟨ke_n4, nm_r (e' := nI l) (by rw [ke_d4 hm64, hl]) ?_⟩
  refine ke_Xov hc hS h1 h4 (by omega) (fun h => absurd hov h) (fun _ => ?_)
  refine br_f (by decide) ?_
  exact ke_Xab hc hp
theorem ke_X65l {post : Int32 → St2 → Prop} {d m l : Nat} {p q i L : Nat} {b : Int32} (hc : c < 4) (ho : ops (c * 16 + i) = nI p) (eq : oa (c * 16 + i) = nI q) (eb : ob (c * 16 + i) = b) (hi : pc c = nI i) (hL : len c = nI L) (hL16 : L ≤ 16) (hiL : i < L) (hok : ke_Ok (nI p) (nI q) b) (hp9 : p < 9) (hq4 : q < 4) (hpp : p = 1 ∨ p = 5) (hS : S = nI d) (h1 : 1 ≤ d) (h4 : d ≤ 4) (hm : m = ke_ad p b c reg) (hl : l = m / 4) (hov : ¬ ke_ov W d fp c l) (hp : post 4 (W, S, R, O, mem, ops, oa, ob, len, (ke_con R l 2 c (st, pc, reg, fp, hb, att, ca, co, cn, yb) 4).1, upd (ke_con R l 2 c (st, pc, reg, fp, hb, att, ca, co, cn, yb) 4).2.1 c ((ke_con R l 2 c (st, pc, reg, fp, hb, att, ca, co, cn, yb) 4).2.1 c + 1), upd (ke_con R l 2 c (st, pc, reg, fp, hb, att, ca, co, cn, yb) 4).2.2.1 (c * 4 + q) (if (ke_con R l 2 c (st, pc, reg, fp, hb, att, ca, co, cn, yb) 4).2.2.2.2.1 (c * 64 + m) = 0 then mem m else bv (c * 64 + m)), res, upd (ke_con R l 2 c (st, pc, reg, fp, hb, att, ca, co, cn, yb) 4).2.2.2.1 (c * 17 + l) ((ke_con R l 2 c (st, pc, reg, fp, hb, att, ca, co, cn, yb) 4).2.2.2.1 (c * 17 + l) ||| 1), bv, (ke_con R l 2 c (st, pc, reg, fp, hb, att, ca, co, cn, yb) 4).2.2.2.2.1, (ke_con R l 2 c (st, pc, reg, fp, hb, att, ca, co, cn, yb) 4).2.2.2.2.2.1, (ke_con R l 2 c (st, pc, reg, fp, hb, att, ca, co, cn, yb) 4).2.2.2.2.2.2.1, (ke_con R l 2 c (st, pc, reg, fp, hb, att, ca, co, cn, yb) 4).2.2.2.2.2.2.2.1, (ke_con R l 2 c (st, pc, reg, fp, hb, att, ca, co, cn, yb) 4).2.2.2.2.2.2.2.2.1)) : wX_executeSpeculatively_65 post (nI c) (nI (c * 16 + i)) 0 W S R O mem ops oa ob len st pc reg res fp bv hb att ca co cn := by
  have hm64 : m < 64 := by rw [hm]; exact ke_ad_lt c reg hok (by omega)
  have hA : vp_in (nI (c * 16 + i)) 64 := vp_in_nI (by omega) (by omega)
  have eA : (nI (c * 16 + i)).toNatClampNeg = c * 16 + i := nI_clamp (by omega)
  have hl16 : l < 17 := by omega
  have hm6 : (nI m).toNatClampNeg = m := nI_clamp (by omega)
  unfold wX_executeSpeculatively_65
  refine ke_Xad hc (by omega) ho eb hok (by omega) ?_
  rw [← hm]
  refine ⟨ke_n4, nm_r (e' := nI l) (by rw [ke_d4 hm64, hl]) ?_⟩
  refine ke_Xov hc hS h1 h4 hl16 (fun _ => ?_) (fun h => absurd h hov)
  refine br_t rfl ?_
  refine ke_Xcf2 (yb := yb) hc hl16 ?_
  generalize ke_con R l 2 c (st, pc, reg, fp, hb, att, ca, co, cn, yb) 4 = u at hp ⊢
  refine ⟨hA, nm_r (e' := nI c * 4 + nI q) (by rw [eA, eq]) (nm_r (e' := nI c * 64 + nI m) rfl ?_)⟩
  refine br_t rfl ⟨ke_v17 hc hl16, ke_v17 hc hl16, nm_r (e' := upd u.2.2.2.1 (c * 17 + l) (u.2.2.2.1 (c * 17 + l) ||| 1)) (by rw [ke_c17 hc hl16]) ⟨ke_v64 hc hm64, ?_⟩⟩
  by_cases z : u.2.2.2.2.1 (c * 64 + m) = 0
  · rw [if_pos z] at hp
    refine br_t (by rw [ke_c64 hc hm64]; exact z) ⟨vp_in_nI hm64 (by omega), ?_⟩
    rw [hm6]
    exact ⟨ke_v4 hc hq4, nm_r (e' := upd u.2.2.1 (c * 4 + q) (mem m)) (by rw [ke_c4 hc hq4]) ⟨ke_i4 hc, ke_i4 hc, nm_r (e' := upd u.2.1 c (u.2.1 c + 1)) (by rw [ke_k4 hc]) hp⟩⟩
  · rw [if_neg z] at hp
    refine br_f (by rw [ke_c64 hc hm64]; exact z) ⟨ke_v64 hc hm64, ?_⟩
    rw [ke_c64 hc hm64]
    exact ⟨ke_v4 hc hq4, nm_r (e' := upd u.2.2.1 (c * 4 + q) (bv (c * 64 + m))) (by rw [ke_c4 hc hq4]) ⟨ke_i4 hc, ke_i4 hc, nm_r (e' := upd u.2.1 c (u.2.1 c + 1)) (by rw [ke_k4 hc]) hp⟩⟩
theorem ke_X65s {post : Int32 → St2 → Prop} {d m l : Nat} {p q i L : Nat} {b : Int32} (hc : c < 4) (ho : ops (c * 16 + i) = nI p) (eq : oa (c * 16 + i) = nI q) (eb : ob (c * 16 + i) = b) (hi : pc c = nI i) (hL : len c = nI L) (hL16 : L ≤ 16) (hiL : i < L) (hok : ke_Ok (nI p) (nI q) b) (hp9 : p < 9) (hq4 : q < 4) (hpp : p = 2 ∨ p = 6) (hS : S = nI d) (h1 : 1 ≤ d) (h4 : d ≤ 4) (hm : m = ke_ad p b c reg) (hl : l = m / 4) (hov : ¬ ke_ov W d fp c l) (hp : post 4 (W, S, R, O, mem, ops, oa, ob, len, (ke_con R l 3 c (st, pc, reg, fp, hb, att, ca, co, cn, yb) 4).1, upd (ke_con R l 3 c (st, pc, reg, fp, hb, att, ca, co, cn, yb) 4).2.1 c ((ke_con R l 3 c (st, pc, reg, fp, hb, att, ca, co, cn, yb) 4).2.1 c + 1), (ke_con R l 3 c (st, pc, reg, fp, hb, att, ca, co, cn, yb) 4).2.2.1, res, upd (ke_con R l 3 c (st, pc, reg, fp, hb, att, ca, co, cn, yb) 4).2.2.2.1 (c * 17 + l) ((ke_con R l 3 c (st, pc, reg, fp, hb, att, ca, co, cn, yb) 4).2.2.2.1 (c * 17 + l) ||| 2), upd bv (c * 64 + m) ((ke_con R l 3 c (st, pc, reg, fp, hb, att, ca, co, cn, yb) 4).2.2.1 (c * 4 + q)), upd (ke_con R l 3 c (st, pc, reg, fp, hb, att, ca, co, cn, yb) 4).2.2.2.2.1 (c * 64 + m) 1, (ke_con R l 3 c (st, pc, reg, fp, hb, att, ca, co, cn, yb) 4).2.2.2.2.2.1, (ke_con R l 3 c (st, pc, reg, fp, hb, att, ca, co, cn, yb) 4).2.2.2.2.2.2.1, (ke_con R l 3 c (st, pc, reg, fp, hb, att, ca, co, cn, yb) 4).2.2.2.2.2.2.2.1, (ke_con R l 3 c (st, pc, reg, fp, hb, att, ca, co, cn, yb) 4).2.2.2.2.2.2.2.2.1)) : wX_executeSpeculatively_65 post (nI c) (nI (c * 16 + i)) 1 W S R O mem ops oa ob len st pc reg res fp bv hb att ca co cn := by
  have hm64 : m < 64 := by rw [hm]; exact ke_ad_lt c reg hok (by omega)
  have hA : vp_in (nI (c * 16 + i)) 64 := vp_in_nI (by omega) (by omega)
  have eA : (nI (c * 16 + i)).toNatClampNeg = c * 16 + i := nI_clamp (by omega)
  have hl16 : l < 17 := by omega
  unfold wX_executeSpeculatively_65
  refine ke_Xad hc (by omega) ho eb hok (by omega) ?_
  rw [← hm]
  refine ⟨ke_n4, nm_r (e' := nI l) (by rw [ke_d4 hm64, hl]) ?_⟩
  refine ke_Xov hc hS h1 h4 hl16 (fun _ => ?_) (fun h => absurd h hov)
  refine br_t rfl ?_
  refine ke_Xcf3 (yb := yb) hc hl16 ?_
  generalize ke_con R l 3 c (st, pc, reg, fp, hb, att, ca, co, cn, yb) 4 = u at hp ⊢
  refine ⟨hA, nm_r (e' := nI c * 4 + nI q) (by rw [eA, eq]) (nm_r (e' := nI c * 64 + nI m) rfl ?_)⟩
  refine br_f (by decide) ⟨ke_v17 hc hl16, ke_v17 hc hl16, nm_r (e' := upd u.2.2.2.1 (c * 17 + l) (u.2.2.2.1 (c * 17 + l) ||| 2)) (by rw [ke_c17 hc hl16]) ?_⟩
  refine ⟨ke_v4 hc hq4, ke_v64 hc hm64, nm_r (e' := upd bv (c * 64 + m) (u.2.2.1 (c * 4 + q))) (by rw [ke_c64 hc hm64, ke_c4 hc hq4]) ?_⟩
  refine ⟨ke_v64 hc hm64, nm_r (e' := upd u.2.2.2.2.1 (c * 64 + m) 1) (by rw [ke_c64 hc hm64]) ?_⟩
  exact ⟨ke_i4 hc, ke_i4 hc, nm_r (e' := upd u.2.1 c (u.2.1 c + 1)) (by rw [ke_k4 hc]) hp⟩
theorem ke_is0 {post : Int32 → Prop} {p : Nat} (hp : p < 9) (h2 : ¬ (p = 2 ∨ p = 6)) (h : post 0) : wpX_isStore post () (nI p) :=
  br_f (fun z => h2 (Or.inl ((nI_eq (by omega) (by decide)).mp z))) (br_f (fun z => h2 (Or.inr ((nI_eq (by omega) (by decide)).mp z))) h)
theorem ke_is1 {post : Int32 → Prop} {p : Nat} (h2 : p = 2 ∨ p = 6) (h : post 1) : wpX_isStore post () (nI p) := by
  rcases h2 with rfl | rfl
  · exact br_t rfl h
  · exact br_f (by decide) (br_t rfl h)
theorem ke_il0 {post : Int32 → Prop} {p : Nat} (hp : p < 9) (h2 : ¬ (p = 1 ∨ p = 5)) (h : post 0) : wpX_isLoad post () (nI p) :=
  br_f (fun z => h2 (Or.inl ((nI_eq (by omega) (by decide)).mp z))) (br_f (fun z => h2 (Or.inr ((nI_eq (by omega) (by decide)).mp z))) h)
theorem ke_il1 {post : Int32 → Prop} {p : Nat} (h2 : p = 1 ∨ p = 5) (h : post 1) : wpX_isLoad post () (nI p) := by
  rcases h2 with rfl | rfl
  · exact br_t rfl h
  · exact br_f (by decide) (br_t rfl h)
theorem ke_Xs7 {post : Int32 → St2 → Prop} {p q i L : Nat} {b : Int32} (hc : c < 4) (ho : ops (c * 16 + i) = nI p) (eq : oa (c * 16 + i) = nI q) (eb : ob (c * 16 + i) = b) (hi : pc c = nI i) (hL : len c = nI L) (hL16 : L ≤ 16) (hiL : i < L) (hok : ke_Ok (nI p) (nI q) b) (hp9 : p < 9) (hq4 : q < 4) (hpp : p = 7) (hp : post 5 (W, S, R, O, mem, ops, oa, ob, len, upd st c (ke_as R 3 (att c + 1)), upd pc c 0, ke_fill reg (c * 4) 4, res, ke_fill fp (c * 17) 17, bv, ke_fill hb (c * 64) 64, upd att c (att c + 1), upd ca c 3, upd co c b, upd cn (c * 3 + 2) (cn (c * 3 + 2) + 1))) : wpX_executeSpeculatively post (W, S, R, O, mem, ops, oa, ob, len, st, pc, reg, res, fp, bv, hb, att, ca, co, cn) (nI c) := by
  have eA : (nI (c * 16 + i)).toNatClampNeg = c * 16 + i := nI_clamp (by omega)
  have hA : vp_in (nI (c * 16 + i)) 64 := vp_in_nI (by omega) (by omega)
  refine ⟨ke_i4 hc, nm_r (e' := nI (c * 16 + i)) (by rw [ke_k4 hc, hi, ke_x16]) ⟨hA, nm_r (e' := nI p) (by rw [eA, ho]) ?_⟩⟩
  subst hpp
  refine br_t rfl ⟨hA, ?_⟩
  rw [eA, eb]
  exact ke_Xab hc hp
theorem ke_Xsx {post : Int32 → St2 → Prop} {p q i L : Nat} {b : Int32} (hc : c < 4) (ho : ops (c * 16 + i) = nI p) (eq : oa (c * 16 + i) = nI q) (eb : ob (c * 16 + i) = b) (hi : pc c = nI i) (hL : len c = nI L) (hL16 : L ≤ 16) (hiL : i < L) (hok : ke_Ok (nI p) (nI q) b) (hp9 : p < 9) (hq4 : q < 4) (hpp : ¬ (p = 1 ∨ p = 2 ∨ p = 5 ∨ p = 6 ∨ p = 7)) (hp : post 4 (W, S, R, O, mem, ops, oa, ob, len, st, upd pc c (nI (ke_xp p q b c L i reg)), ke_xr p q b c reg, res, fp, bv, hb, att, ca, co, cn)) : wpX_executeSpeculatively post (W, S, R, O, mem, ops, oa, ob, len, st, pc, reg, res, fp, bv, hb, att, ca, co, cn) (nI c) := by
  have eA : (nI (c * 16 + i)).toNatClampNeg = c * 16 + i := nI_clamp (by omega)
  have hA : vp_in (nI (c * 16 + i)) 64 := vp_in_nI (by omega) (by omega)
  refine ⟨ke_i4 hc, nm_r (e' := nI (c * 16 + i)) (by rw [ke_k4 hc, hi, ke_x16]) ⟨hA, nm_r (e' := nI p) (by rw [eA, ho]) ?_⟩⟩
  refine br_f (fun z => hpp (by have := (nI_eq (a := p) (b := 7) (by omega) (by decide)).mp z; omega)) (ke_is0 hp9 (by omega) ?_)
  refine br_t rfl (ke_il0 hp9 (by omega) ?_)
  refine br_t rfl ?_
  exact ke_Xer hc (by omega) ho eq eb hi hL hL16 hiL hok hp9 hq4 hp
theorem ke_Xsl {post : Int32 → St2 → Prop} {p q i L : Nat} {b : Int32} (hc : c < 4) (ho : ops (c * 16 + i) = nI p) (eq : oa (c * 16 + i) = nI q) (eb : ob (c * 16 + i) = b) (hi : pc c = nI i) (hL : len c = nI L) (hL16 : L ≤ 16) (hiL : i < L) (hok : ke_Ok (nI p) (nI q) b) (hp9 : p < 9) (hq4 : q < 4) (hpp : p = 1 ∨ p = 5) (h : wX_executeSpeculatively_65 post (nI c) (nI (c * 16 + i)) 0 W S R O mem ops oa ob len st pc reg res fp bv hb att ca co cn) : wpX_executeSpeculatively post (W, S, R, O, mem, ops, oa, ob, len, st, pc, reg, res, fp, bv, hb, att, ca, co, cn) (nI c) := by
  have eA : (nI (c * 16 + i)).toNatClampNeg = c * 16 + i := nI_clamp (by omega)
  have hA : vp_in (nI (c * 16 + i)) 64 := vp_in_nI (by omega) (by omega)
  refine ⟨ke_i4 hc, nm_r (e' := nI (c * 16 + i)) (by rw [ke_k4 hc, hi, ke_x16]) ⟨hA, nm_r (e' := nI p) (by rw [eA, ho]) ?_⟩⟩
  refine br_f (fun z => by have := (nI_eq (a := p) (b := 7) (by omega) (by decide)).mp z; omega) (ke_is0 hp9 (by omega) ?_)
  refine br_t rfl (ke_il1 hpp ?_)
  exact br_f (by decide) h
theorem ke_Xss {post : Int32 → St2 → Prop} {p q i L : Nat} {b : Int32} (hc : c < 4) (ho : ops (c * 16 + i) = nI p) (eq : oa (c * 16 + i) = nI q) (eb : ob (c * 16 + i) = b) (hi : pc c = nI i) (hL : len c = nI L) (hL16 : L ≤ 16) (hiL : i < L) (hok : ke_Ok (nI p) (nI q) b) (hp9 : p < 9) (hq4 : q < 4) (hpp : p = 2 ∨ p = 6) (h : wX_executeSpeculatively_65 post (nI c) (nI (c * 16 + i)) 1 W S R O mem ops oa ob len st pc reg res fp bv hb att ca co cn) : wpX_executeSpeculatively post (W, S, R, O, mem, ops, oa, ob, len, st, pc, reg, res, fp, bv, hb, att, ca, co, cn) (nI c) := by
  have eA : (nI (c * 16 + i)).toNatClampNeg = c * 16 + i := nI_clamp (by omega)
  have hA : vp_in (nI (c * 16 + i)) 64 := vp_in_nI (by omega) (by omega)
  refine ⟨ke_i4 hc, nm_r (e' := nI (c * 16 + i)) (by rw [ke_k4 hc, hi, ke_x16]) ⟨hA, nm_r (e' := nI p) (by rw [eA, ho]) ?_⟩⟩
  refine br_f (fun z => by have := (nI_eq (a := p) (b := 7) (by omega) (by decide)).mp z; omega) (ke_is1 hpp ?_)
  exact br_f (by decide) h
theorem ke_Xmx {post : Int32 → St2 → Prop} {p q i L : Nat} {b : Int32} (hc : c < 4) (ho : ops (c * 16 + i) = nI p) (eq : oa (c * 16 + i) = nI q) (eb : ob (c * 16 + i) = b) (hi : pc c = nI i) (hL : len c = nI L) (hL16 : L ≤ 16) (hiL : i < L) (hok : ke_Ok (nI p) (nI q) b) (hp9 : p < 9) (hq4 : q < 4) (hpp : ¬ (p = 1 ∨ p = 2 ∨ p = 5 ∨ p = 6)) (hp : post 4 (W, S, R, O, mem, ops, oa, ob, len, st, upd pc c (nI (ke_xp p q b c L i reg)), ke_xr p q b c reg, res, fp, bv, hb, att, ca, co, cn)) : wpX_executeOnMemory post (W, S, R, O, mem, ops, oa, ob, len, st, pc, reg, res, fp, bv, hb, att, ca, co, cn) (nI c) := by
  have eA : (nI (c * 16 + i)).toNatClampNeg = c * 16 + i := nI_clamp (by omega)
  have hA : vp_in (nI (c * 16 + i)) 64 := vp_in_nI (by omega) (by omega)
  refine ⟨ke_i4 hc, nm_r (e' := nI (c * 16 + i)) (by rw [ke_k4 hc, hi, ke_x16]) ⟨hA, ?_⟩⟩
  rw [eA, ho]
  refine ke_is0 hp9 (by omega) ?_
  refine br_t rfl ⟨hA, ke_il0 hp9 (by omega) ?_⟩
  refine br_t rfl ?_
  exact ke_Xer hc (by omega) ho eq eb hi hL hL16 hiL hok hp9 hq4 hp
theorem ke_Xml {post : Int32 → St2 → Prop} {p q i L : Nat} {b : Int32} (hc : c < 4) (ho : ops (c * 16 + i) = nI p) (eq : oa (c * 16 + i) = nI q) (eb : ob (c * 16 + i) = b) (hi : pc c = nI i) (hL : len c = nI L) (hL16 : L ≤ 16) (hiL : i < L) (hok : ke_Ok (nI p) (nI q) b) (hp9 : p < 9) (hq4 : q < 4) (hpp : p = 1 ∨ p = 5) (hp : post 4 (W, S, R, O, mem, ops, oa, ob, len, st, upd pc c (pc c + 1), upd reg (c * 4 + q) (mem (ke_ad p b c reg)), res, fp, bv, hb, att, ca, co, cn)) : wpX_executeOnMemory post (W, S, R, O, mem, ops, oa, ob, len, st, pc, reg, res, fp, bv, hb, att, ca, co, cn) (nI c) := by
  have eA : (nI (c * 16 + i)).toNatClampNeg = c * 16 + i := nI_clamp (by omega)
  have hA : vp_in (nI (c * 16 + i)) 64 := vp_in_nI (by omega) (by omega)
  have hm64 : ke_ad p b c reg < 64 := ke_ad_lt c reg hok (by omega)
  refine ⟨ke_i4 hc, nm_r (e' := nI (c * 16 + i)) (by rw [ke_k4 hc, hi, ke_x16]) ⟨hA, ?_⟩⟩
  rw [eA, ho]
  refine ke_is0 hp9 (by omega) ?_
  refine br_t rfl ⟨hA, ke_il1 hpp ?_⟩
  refine br_f (by decide) ?_
  unfold wX_executeOnMemory_46
  refine ke_Xad hc (by omega) ho eb hok (by omega) ?_
  refine ⟨hA, nm_r (e' := nI c * 4 + nI q) (by rw [eA, eq]) (br_t rfl ⟨vp_in_nI hm64 (by omega), ke_v4 hc hq4, nm_r (e' := upd reg (c * 4 + q) (mem (ke_ad p b c reg))) (by rw [ke_c4 hc hq4, nI_clamp (by omega)]) ?_⟩)⟩
  exact ⟨ke_i4 hc, ke_i4 hc, nm_r (e' := upd pc c (pc c + 1)) (by rw [ke_k4 hc]) hp⟩
theorem ke_Xms {post : Int32 → St2 → Prop} {p q i L : Nat} {b : Int32} (hc : c < 4) (ho : ops (c * 16 + i) = nI p) (eq : oa (c * 16 + i) = nI q) (eb : ob (c * 16 + i) = b) (hi : pc c = nI i) (hL : len c = nI L) (hL16 : L ≤ 16) (hiL : i < L) (hok : ke_Ok (nI p) (nI q) b) (hp9 : p < 9) (hq4 : q < 4) (hpp : p = 2 ∨ p = 6) (hp : post 4 (W, S, R, O, upd mem (ke_ad p b c reg) (reg (c * 4 + q)), ops, oa, ob, len, st, upd pc c (pc c + 1), reg, res, fp, bv, hb, att, ca, co, cn)) : wpX_executeOnMemory post (W, S, R, O, mem, ops, oa, ob, len, st, pc, reg, res, fp, bv, hb, att, ca, co, cn) (nI c) := by
  have eA : (nI (c * 16 + i)).toNatClampNeg = c * 16 + i := nI_clamp (by omega)
  have hA : vp_in (nI (c * 16 + i)) 64 := vp_in_nI (by omega) (by omega)
  have hm64 : ke_ad p b c reg < 64 := ke_ad_lt c reg hok (by omega)
  refine ⟨ke_i4 hc, nm_r (e' := nI (c * 16 + i)) (by rw [ke_k4 hc, hi, ke_x16]) ⟨hA, ?_⟩⟩
  rw [eA, ho]
  refine ke_is1 hpp ?_
  refine br_f (by decide) ?_
  unfold wX_executeOnMemory_46
  refine ke_Xad hc (by omega) ho eb hok (by omega) ?_
  refine ⟨hA, nm_r (e' := nI c * 4 + nI q) (by rw [eA, eq]) (br_f (by decide) ⟨ke_v4 hc hq4, vp_in_nI hm64 (by omega), nm_r (e' := upd mem (ke_ad p b c reg) (reg (c * 4 + q))) (by rw [ke_c4 hc hq4, nI_clamp (show ke_ad p b c reg < 2 ^ 31 by omega)]) ?_⟩)⟩
  exact ⟨ke_i4 hc, ke_i4 hc, nm_r (e' := upd pc c (pc c + 1)) (by rw [ke_k4 hc]) hp⟩
theorem ke_co1 {post : Int32 → Prop} (hc : c < 4) (h : post 1) : wpX_isCore post () (nI c) := br_f (nI_pos (by omega)) (br_f (nI_ge (b := 4) hc (by decide)) h)
theorem ke_Xst0 {post : Int32 → St2 → Prop} (hc : c < 4) (h0 : pc c < len c → wX_step_29 post (nI c) 0 W S R O mem ops oa ob len st pc reg res fp bv hb att ca co cn) (h1 : ¬ pc c < len c → wX_step_29 post (nI c) 1 W S R O mem ops oa ob len st pc reg res fp bv hb att ca co cn) : wpX_step post (W, S, R, O, mem, ops, oa, ob, len, st, pc, reg, res, fp, bv, hb, att, ca, co, cn) (nI c) := by
  unfold wpX_step
  refine ke_co1 hc ?_
  refine br_f (by decide) ⟨ke_i4 hc, ke_i4 hc, ?_⟩
  rw [ke_k4 hc]
  exact br_c h0 h1
theorem ke_T0 {post : Int32 → St2 → Prop} (hc : c < 4) (hs : st c = 0) (hp : post 0 (W, S, R, O, mem, ops, oa, ob, len, st, pc, reg, res, fp, bv, hb, att, ca, co, cn)) : wpX_step post (W, S, R, O, mem, ops, oa, ob, len, st, pc, reg, res, fp, bv, hb, att, ca, co, cn) (nI c) := by
  refine ke_Xst0 hc (fun _ => ?_) (fun _ => ?_)
  · exact ⟨ke_i4 hc, nm_r (e' := 0) (by rw [ke_k4 hc, hs]) (br_t (by decide) hp)⟩
  · exact ⟨ke_i4 hc, nm_r (e' := 0) (by rw [ke_k4 hc, hs]) (br_t (by decide) hp)⟩
theorem ke_T1 {post : Int32 → St2 → Prop} (hc : c < 4) (hs : st c = 1) (hO : O = -1) (hp : post 2 (W, S, R, O, mem, ops, oa, ob, len, upd st c 2, upd pc c 0, ke_fill reg (c * 4) 4, res, upd (ke_fill fp (c * 17) 17) (c * 17 + 16) 1, bv, ke_fill hb (c * 64) 64, att, ca, co, cn)) : wpX_step post (W, S, R, O, mem, ops, oa, ob, len, st, pc, reg, res, fp, bv, hb, att, ca, co, cn) (nI c) := by
  refine ke_Xst0 hc (fun _ => ?_) (fun _ => ?_)
  · exact ⟨ke_i4 hc, nm_r (e' := 1) (by rw [ke_k4 hc, hs]) (br_f (by decide) (br_f (by decide) (br_t rfl (ke_Xbg hc hO hp))))⟩
  · exact ⟨ke_i4 hc, nm_r (e' := 1) (by rw [ke_k4 hc, hs]) (br_f (by decide) (br_f (by decide) (br_t rfl (ke_Xbg hc hO hp))))⟩
theorem ke_T1b {post : Int32 → St2 → Prop} (hc : c < 4) (hs : st c = 1) (hO : ¬ O = -1) (hp : post 1 (W, S, R, O, mem, ops, oa, ob, len, st, pc, reg, res, fp, bv, hb, att, ca, co, cn)) : wpX_step post (W, S, R, O, mem, ops, oa, ob, len, st, pc, reg, res, fp, bv, hb, att, ca, co, cn) (nI c) := by
  refine ke_Xst0 hc (fun _ => ?_) (fun _ => ?_)
  · exact ⟨ke_i4 hc, nm_r (e' := 1) (by rw [ke_k4 hc, hs]) (br_f (by decide) (br_f (by decide) (br_t rfl (br_f hO hp))))⟩
  · exact ⟨ke_i4 hc, nm_r (e' := 1) (by rw [ke_k4 hc, hs]) (br_f (by decide) (br_f (by decide) (br_t rfl (br_f hO hp))))⟩
theorem ke_T3 {post : Int32 → St2 → Prop} (hc : c < 4) (hs : st c = 3) (hO : O = -1) (hp : post 3 (W, S, R, nI c, mem, ops, oa, ob, len, upd (ke_acq R (st, pc, reg, fp, hb, att, ca, co, cn, yb) 4).1 c 4, upd (ke_acq R (st, pc, reg, fp, hb, att, ca, co, cn, yb) 4).2.1 c 0, ke_fill (ke_acq R (st, pc, reg, fp, hb, att, ca, co, cn, yb) 4).2.2.1 (c * 4) 4, res, (ke_acq R (st, pc, reg, fp, hb, att, ca, co, cn, yb) 4).2.2.2.1, bv, (ke_acq R (st, pc, reg, fp, hb, att, ca, co, cn, yb) 4).2.2.2.2.1, (ke_acq R (st, pc, reg, fp, hb, att, ca, co, cn, yb) 4).2.2.2.2.2.1, (ke_acq R (st, pc, reg, fp, hb, att, ca, co, cn, yb) 4).2.2.2.2.2.2.1, (ke_acq R (st, pc, reg, fp, hb, att, ca, co, cn, yb) 4).2.2.2.2.2.2.2.1, (ke_acq R (st, pc, reg, fp, hb, att, ca, co, cn, yb) 4).2.2.2.2.2.2.2.2.1)) : wpX_step post (W, S, R, O, mem, ops, oa, ob, len, st, pc, reg, res, fp, bv, hb, att, ca, co, cn) (nI c) := by
  refine ke_Xst0 hc (fun _ => ?_) (fun _ => ?_)
  · exact ⟨ke_i4 hc, nm_r (e' := 3) (by rw [ke_k4 hc, hs]) (br_f (by decide) (br_f (by decide) (br_f (by decide) (br_f (by decide) (br_t rfl (ke_Xaq hc hO hp))))))⟩
  · exact ⟨ke_i4 hc, nm_r (e' := 3) (by rw [ke_k4 hc, hs]) (br_f (by decide) (br_f (by decide) (br_f (by decide) (br_f (by decide) (br_t rfl (ke_Xaq hc hO hp))))))⟩
theorem ke_T3b {post : Int32 → St2 → Prop} (hc : c < 4) (hs : st c = 3) (hO : ¬ O = -1) (hp : post 1 (W, S, R, O, mem, ops, oa, ob, len, st, pc, reg, res, fp, bv, hb, att, ca, co, cn)) : wpX_step post (W, S, R, O, mem, ops, oa, ob, len, st, pc, reg, res, fp, bv, hb, att, ca, co, cn) (nI c) := by
  refine ke_Xst0 hc (fun _ => ?_) (fun _ => ?_)
  · exact ⟨ke_i4 hc, nm_r (e' := 3) (by rw [ke_k4 hc, hs]) (br_f (by decide) (br_f (by decide) (br_f (by decide) (br_f (by decide) (br_t rfl (br_f hO hp))))))⟩
  · exact ⟨ke_i4 hc, nm_r (e' := 3) (by rw [ke_k4 hc, hs]) (br_f (by decide) (br_f (by decide) (br_f (by decide) (br_f (by decide) (br_t rfl (br_f hO hp))))))⟩
theorem ke_T2e {post : Int32 → St2 → Prop} (hc : c < 4) (hs : st c = 2) (hl : ¬ pc c < len c) (hp : post 6 (W, S, R, O, ke_mrg mem hb bv (c * 64) 64, ops, oa, ob, len, upd st c 0, pc, reg, ke_copy res reg (c * 4) 4, ke_fill fp (c * 17) 17, bv, ke_fill hb (c * 64) 64, att, ca, co, upd cn (c * 3 + 0) (cn (c * 3 + 0) + 1))) : wpX_step post (W, S, R, O, mem, ops, oa, ob, len, st, pc, reg, res, fp, bv, hb, att, ca, co, cn) (nI c) := by
  refine ke_Xst0 hc (fun h => absurd h hl) (fun _ => ?_)
  exact ⟨ke_i4 hc, nm_r (e' := 2) (by rw [ke_k4 hc, hs]) (br_f (by decide) (br_f (by decide) (br_f (by decide) (br_t rfl (br_f (by decide) (ke_Xct hc hp))))))⟩
theorem ke_T4e {post : Int32 → St2 → Prop} (hc : c < 4) (hs : st c = 4) (hl : ¬ pc c < len c) (hp : post 7 (W, S, R, -1, mem, ops, oa, ob, len, upd st c 0, pc, reg, ke_copy res reg (c * 4) 4, fp, bv, hb, att, ca, co, upd cn (c * 3 + 1) (cn (c * 3 + 1) + 1))) : wpX_step post (W, S, R, O, mem, ops, oa, ob, len, st, pc, reg, res, fp, bv, hb, att, ca, co, cn) (nI c) := by
  refine ke_Xst0 hc (fun h => absurd h hl) (fun _ => ?_)
  exact ⟨ke_i4 hc, nm_r (e' := 4) (by rw [ke_k4 hc, hs]) (br_f (by decide) (br_f (by decide) (br_f (by decide) (br_f (by decide) (br_f (by decide) (br_t rfl (br_f (by decide) (ke_Xrl hc hp))))))))⟩
theorem ke_T27 {post : Int32 → St2 → Prop} {p q i L : Nat} {b : Int32} (hc : c < 4) (ho : ops (c * 16 + i) = nI p) (eq : oa (c * 16 + i) = nI q) (eb : ob (c * 16 + i) = b) (hi : pc c = nI i) (hL : len c = nI L) (hL16 : L ≤ 16) (hiL : i < L) (hok : ke_Ok (nI p) (nI q) b) (hp9 : p < 9) (hq4 : q < 4) (hs : st c = 2) (hpp : p = 7) (hp : post 5 (W, S, R, O, mem, ops, oa, ob, len, upd st c (ke_as R 3 (att c + 1)), upd pc c 0, ke_fill reg (c * 4) 4, res, ke_fill fp (c * 17) 17, bv, ke_fill hb (c * 64) 64, upd att c (att c + 1), upd ca c 3, upd co c b, upd cn (c * 3 + 2) (cn (c * 3 + 2) + 1))) : wpX_step post (W, S, R, O, mem, ops, oa, ob, len, st, pc, reg, res, fp, bv, hb, att, ca, co, cn) (nI c) := by
  have hlt : pc c < len c := (by rw [hi, hL]; exact nI_lt hiL (by omega))
  refine ke_Xst0 hc (fun _ => ?_) (fun h => absurd hlt h)
  exact ⟨ke_i4 hc, nm_r (e' := 2) (by rw [ke_k4 hc, hs]) (br_f (by decide) (br_f (by decide) (br_f (by decide) (br_t rfl (br_t rfl (ke_Xs7 hc ho eq eb hi hL hL16 hiL hok hp9 hq4 hpp hp))))))⟩
theorem ke_T2x {post : Int32 → St2 → Prop} {p q i L : Nat} {b : Int32} (hc : c < 4) (ho : ops (c * 16 + i) = nI p) (eq : oa (c * 16 + i) = nI q) (eb : ob (c * 16 + i) = b) (hi : pc c = nI i) (hL : len c = nI L) (hL16 : L ≤ 16) (hiL : i < L) (hok : ke_Ok (nI p) (nI q) b) (hp9 : p < 9) (hq4 : q < 4) (hs : st c = 2) (hpp : ¬ (p = 1 ∨ p = 2 ∨ p = 5 ∨ p = 6 ∨ p = 7)) (hp : post 4 (W, S, R, O, mem, ops, oa, ob, len, st, upd pc c (nI (ke_xp p q b c L i reg)), ke_xr p q b c reg, res, fp, bv, hb, att, ca, co, cn)) : wpX_step post (W, S, R, O, mem, ops, oa, ob, len, st, pc, reg, res, fp, bv, hb, att, ca, co, cn) (nI c) := by
  have hlt : pc c < len c := (by rw [hi, hL]; exact nI_lt hiL (by omega))
  refine ke_Xst0 hc (fun _ => ?_) (fun h => absurd hlt h)
  exact ⟨ke_i4 hc, nm_r (e' := 2) (by rw [ke_k4 hc, hs]) (br_f (by decide) (br_f (by decide) (br_f (by decide) (br_t rfl (br_t rfl (ke_Xsx hc ho eq eb hi hL hL16 hiL hok hp9 hq4 hpp hp))))))⟩
theorem ke_T2ol {post : Int32 → St2 → Prop} {d m l : Nat} {p q i L : Nat} {b : Int32} (hc : c < 4) (ho : ops (c * 16 + i) = nI p) (eq : oa (c * 16 + i) = nI q) (eb : ob (c * 16 + i) = b) (hi : pc c = nI i) (hL : len c = nI L) (hL16 : L ≤ 16) (hiL : i < L) (hok : ke_Ok (nI p) (nI q) b) (hp9 : p < 9) (hq4 : q < 4) (hs : st c = 2) (hpp : p = 1 ∨ p = 5) (hS : S = nI d) (h1 : 1 ≤ d) (h4 : d ≤ 4) (hm : m = ke_ad p b c reg) (hl : l = m / 4) (hov : ke_ov W d fp c l) (hp : post 5 (W, S, R, O, mem, ops, oa, ob, len, upd st c (ke_as R 2 (att c + 1)), upd pc c 0, ke_fill reg (c * 4) 4, res, ke_fill fp (c * 17) 17, bv, ke_fill hb (c * 64) 64, upd att c (att c + 1), upd ca c 2, upd co c 0, upd cn (c * 3 + 2) (cn (c * 3 + 2) + 1))) : wpX_step post (W, S, R, O, mem, ops, oa, ob, len, st, pc, reg, res, fp, bv, hb, att, ca, co, cn) (nI c) := by
  have hlt : pc c < len c := (by rw [hi, hL]; exact nI_lt hiL (by omega))
  refine ke_Xst0 hc (fun _ => ?_) (fun h => absurd hlt h)
  exact ⟨ke_i4 hc, nm_r (e' := 2) (by rw [ke_k4 hc, hs]) (br_f (by decide) (br_f (by decide) (br_f (by decide) (br_t rfl (br_t rfl (ke_Xsl hc ho eq eb hi hL hL16 hiL hok hp9 hq4 hpp (ke_X65o hc ho eq eb hi hL hL16 hiL hok hp9 hq4 (by omega) hS h1 h4 hm hl hov hp)))))))⟩
theorem ke_T2os {post : Int32 → St2 → Prop} {d m l : Nat} {p q i L : Nat} {b : Int32} (hc : c < 4) (ho : ops (c * 16 + i) = nI p) (eq : oa (c * 16 + i) = nI q) (eb : ob (c * 16 + i) = b) (hi : pc c = nI i) (hL : len c = nI L) (hL16 : L ≤ 16) (hiL : i < L) (hok : ke_Ok (nI p) (nI q) b) (hp9 : p < 9) (hq4 : q < 4) (hs : st c = 2) (hpp : p = 2 ∨ p = 6) (hS : S = nI d) (h1 : 1 ≤ d) (h4 : d ≤ 4) (hm : m = ke_ad p b c reg) (hl : l = m / 4) (hov : ke_ov W d fp c l) (hp : post 5 (W, S, R, O, mem, ops, oa, ob, len, upd st c (ke_as R 2 (att c + 1)), upd pc c 0, ke_fill reg (c * 4) 4, res, ke_fill fp (c * 17) 17, bv, ke_fill hb (c * 64) 64, upd att c (att c + 1), upd ca c 2, upd co c 0, upd cn (c * 3 + 2) (cn (c * 3 + 2) + 1))) : wpX_step post (W, S, R, O, mem, ops, oa, ob, len, st, pc, reg, res, fp, bv, hb, att, ca, co, cn) (nI c) := by
  have hlt : pc c < len c := (by rw [hi, hL]; exact nI_lt hiL (by omega))
  refine ke_Xst0 hc (fun _ => ?_) (fun h => absurd hlt h)
  exact ⟨ke_i4 hc, nm_r (e' := 2) (by rw [ke_k4 hc, hs]) (br_f (by decide) (br_f (by decide) (br_f (by decide) (br_t rfl (br_t rfl (ke_Xss hc ho eq eb hi hL hL16 hiL hok hp9 hq4 hpp (ke_X65o hc ho eq eb hi hL hL16 hiL hok hp9 hq4 (by omega) hS h1 h4 hm hl hov hp)))))))⟩
theorem ke_T2l {post : Int32 → St2 → Prop} {d m l : Nat} {p q i L : Nat} {b : Int32} (hc : c < 4) (ho : ops (c * 16 + i) = nI p) (eq : oa (c * 16 + i) = nI q) (eb : ob (c * 16 + i) = b) (hi : pc c = nI i) (hL : len c = nI L) (hL16 : L ≤ 16) (hiL : i < L) (hok : ke_Ok (nI p) (nI q) b) (hp9 : p < 9) (hq4 : q < 4) (hs : st c = 2) (hpp : p = 1 ∨ p = 5) (hS : S = nI d) (h1 : 1 ≤ d) (h4 : d ≤ 4) (hm : m = ke_ad p b c reg) (hl : l = m / 4) (hov : ¬ ke_ov W d fp c l) (hp : post 4 (W, S, R, O, mem, ops, oa, ob, len, (ke_con R l 2 c (st, pc, reg, fp, hb, att, ca, co, cn, yb) 4).1, upd (ke_con R l 2 c (st, pc, reg, fp, hb, att, ca, co, cn, yb) 4).2.1 c ((ke_con R l 2 c (st, pc, reg, fp, hb, att, ca, co, cn, yb) 4).2.1 c + 1), upd (ke_con R l 2 c (st, pc, reg, fp, hb, att, ca, co, cn, yb) 4).2.2.1 (c * 4 + q) (if (ke_con R l 2 c (st, pc, reg, fp, hb, att, ca, co, cn, yb) 4).2.2.2.2.1 (c * 64 + m) = 0 then mem m else bv (c * 64 + m)), res, upd (ke_con R l 2 c (st, pc, reg, fp, hb, att, ca, co, cn, yb) 4).2.2.2.1 (c * 17 + l) ((ke_con R l 2 c (st, pc, reg, fp, hb, att, ca, co, cn, yb) 4).2.2.2.1 (c * 17 + l) ||| 1), bv, (ke_con R l 2 c (st, pc, reg, fp, hb, att, ca, co, cn, yb) 4).2.2.2.2.1, (ke_con R l 2 c (st, pc, reg, fp, hb, att, ca, co, cn, yb) 4).2.2.2.2.2.1, (ke_con R l 2 c (st, pc, reg, fp, hb, att, ca, co, cn, yb) 4).2.2.2.2.2.2.1, (ke_con R l 2 c (st, pc, reg, fp, hb, att, ca, co, cn, yb) 4).2.2.2.2.2.2.2.1, (ke_con R l 2 c (st, pc, reg, fp, hb, att, ca, co, cn, yb) 4).2.2.2.2.2.2.2.2.1)) : wpX_step post (W, S, R, O, mem, ops, oa, ob, len, st, pc, reg, res, fp, bv, hb, att, ca, co, cn) (nI c) := by
  have hlt : pc c < len c := (by rw [hi, hL]; exact nI_lt hiL (by omega))
  refine ke_Xst0 hc (fun _ => ?_) (fun h => absurd hlt h)
  exact ⟨ke_i4 hc, nm_r (e' := 2) (by rw [ke_k4 hc, hs]) (br_f (by decide) (br_f (by decide) (br_f (by decide) (br_t rfl (br_t rfl (ke_Xsl hc ho eq eb hi hL hL16 hiL hok hp9 hq4 hpp (ke_X65l hc ho eq eb hi hL hL16 hiL hok hp9 hq4 hpp hS h1 h4 hm hl hov hp)))))))⟩
theorem ke_T2s {post : Int32 → St2 → Prop} {d m l : Nat} {p q i L : Nat} {b : Int32} (hc : c < 4) (ho : ops (c * 16 + i) = nI p) (eq : oa (c * 16 + i) = nI q) (eb : ob (c * 16 + i) = b) (hi : pc c = nI i) (hL : len c = nI L) (hL16 : L ≤ 16) (hiL : i < L) (hok : ke_Ok (nI p) (nI q) b) (hp9 : p < 9) (hq4 : q < 4) (hs : st c = 2) (hpp : p = 2 ∨ p = 6) (hS : S = nI d) (h1 : 1 ≤ d) (h4 : d ≤ 4) (hm : m = ke_ad p b c reg) (hl : l = m / 4) (hov : ¬ ke_ov W d fp c l) (hp : post 4 (W, S, R, O, mem, ops, oa, ob, len, (ke_con R l 3 c (st, pc, reg, fp, hb, att, ca, co, cn, yb) 4).1, upd (ke_con R l 3 c (st, pc, reg, fp, hb, att, ca, co, cn, yb) 4).2.1 c ((ke_con R l 3 c (st, pc, reg, fp, hb, att, ca, co, cn, yb) 4).2.1 c + 1), (ke_con R l 3 c (st, pc, reg, fp, hb, att, ca, co, cn, yb) 4).2.2.1, res, upd (ke_con R l 3 c (st, pc, reg, fp, hb, att, ca, co, cn, yb) 4).2.2.2.1 (c * 17 + l) ((ke_con R l 3 c (st, pc, reg, fp, hb, att, ca, co, cn, yb) 4).2.2.2.1 (c * 17 + l) ||| 2), upd bv (c * 64 + m) ((ke_con R l 3 c (st, pc, reg, fp, hb, att, ca, co, cn, yb) 4).2.2.1 (c * 4 + q)), upd (ke_con R l 3 c (st, pc, reg, fp, hb, att, ca, co, cn, yb) 4).2.2.2.2.1 (c * 64 + m) 1, (ke_con R l 3 c (st, pc, reg, fp, hb, att, ca, co, cn, yb) 4).2.2.2.2.2.1, (ke_con R l 3 c (st, pc, reg, fp, hb, att, ca, co, cn, yb) 4).2.2.2.2.2.2.1, (ke_con R l 3 c (st, pc, reg, fp, hb, att, ca, co, cn, yb) 4).2.2.2.2.2.2.2.1, (ke_con R l 3 c (st, pc, reg, fp, hb, att, ca, co, cn, yb) 4).2.2.2.2.2.2.2.2.1)) : wpX_step post (W, S, R, O, mem, ops, oa, ob, len, st, pc, reg, res, fp, bv, hb, att, ca, co, cn) (nI c) := by
  have hlt : pc c < len c := (by rw [hi, hL]; exact nI_lt hiL (by omega))
  refine ke_Xst0 hc (fun _ => ?_) (fun h => absurd hlt h)
  exact ⟨ke_i4 hc, nm_r (e' := 2) (by rw [ke_k4 hc, hs]) (br_f (by decide) (br_f (by decide) (br_f (by decide) (br_t rfl (br_t rfl (ke_Xss hc ho eq eb hi hL hL16 hiL hok hp9 hq4 hpp (ke_X65s hc ho eq eb hi hL hL16 hiL hok hp9 hq4 hpp hS h1 h4 hm hl hov hp)))))))⟩
theorem ke_T4x {post : Int32 → St2 → Prop} {p q i L : Nat} {b : Int32} (hc : c < 4) (ho : ops (c * 16 + i) = nI p) (eq : oa (c * 16 + i) = nI q) (eb : ob (c * 16 + i) = b) (hi : pc c = nI i) (hL : len c = nI L) (hL16 : L ≤ 16) (hiL : i < L) (hok : ke_Ok (nI p) (nI q) b) (hp9 : p < 9) (hq4 : q < 4) (hs : st c = 4) (hpp : ¬ (p = 1 ∨ p = 2 ∨ p = 5 ∨ p = 6)) (hp : post 4 (W, S, R, O, mem, ops, oa, ob, len, st, upd pc c (nI (ke_xp p q b c L i reg)), ke_xr p q b c reg, res, fp, bv, hb, att, ca, co, cn)) : wpX_step post (W, S, R, O, mem, ops, oa, ob, len, st, pc, reg, res, fp, bv, hb, att, ca, co, cn) (nI c) := by
  have hlt : pc c < len c := (by rw [hi, hL]; exact nI_lt hiL (by omega))
  refine ke_Xst0 hc (fun _ => ?_) (fun h => absurd hlt h)
  exact ⟨ke_i4 hc, nm_r (e' := 4) (by rw [ke_k4 hc, hs]) (br_f (by decide) (br_f (by decide) (br_f (by decide) (br_f (by decide) (br_f (by decide) (br_t rfl (br_t rfl (ke_Xmx hc ho eq eb hi hL hL16 hiL hok hp9 hq4 hpp hp))))))))⟩
theorem ke_T4l {post : Int32 → St2 → Prop} {p q i L : Nat} {b : Int32} (hc : c < 4) (ho : ops (c * 16 + i) = nI p) (eq : oa (c * 16 + i) = nI q) (eb : ob (c * 16 + i) = b) (hi : pc c = nI i) (hL : len c = nI L) (hL16 : L ≤ 16) (hiL : i < L) (hok : ke_Ok (nI p) (nI q) b) (hp9 : p < 9) (hq4 : q < 4) (hs : st c = 4) (hpp : p = 1 ∨ p = 5) (hp : post 4 (W, S, R, O, mem, ops, oa, ob, len, st, upd pc c (pc c + 1), upd reg (c * 4 + q) (mem (ke_ad p b c reg)), res, fp, bv, hb, att, ca, co, cn)) : wpX_step post (W, S, R, O, mem, ops, oa, ob, len, st, pc, reg, res, fp, bv, hb, att, ca, co, cn) (nI c) := by
  have hlt : pc c < len c := (by rw [hi, hL]; exact nI_lt hiL (by omega))
  refine ke_Xst0 hc (fun _ => ?_) (fun h => absurd hlt h)
  exact ⟨ke_i4 hc, nm_r (e' := 4) (by rw [ke_k4 hc, hs]) (br_f (by decide) (br_f (by decide) (br_f (by decide) (br_f (by decide) (br_f (by decide) (br_t rfl (br_t rfl (ke_Xml hc ho eq eb hi hL hL16 hiL hok hp9 hq4 hpp hp))))))))⟩
theorem ke_T4s {post : Int32 → St2 → Prop} {p q i L : Nat} {b : Int32} (hc : c < 4) (ho : ops (c * 16 + i) = nI p) (eq : oa (c * 16 + i) = nI q) (eb : ob (c * 16 + i) = b) (hi : pc c = nI i) (hL : len c = nI L) (hL16 : L ≤ 16) (hiL : i < L) (hok : ke_Ok (nI p) (nI q) b) (hp9 : p < 9) (hq4 : q < 4) (hs : st c = 4) (hpp : p = 2 ∨ p = 6) (hp : post 4 (W, S, R, O, upd mem (ke_ad p b c reg) (reg (c * 4 + q)), ops, oa, ob, len, st, upd pc c (pc c + 1), reg, res, fp, bv, hb, att, ca, co, cn)) : wpX_step post (W, S, R, O, mem, ops, oa, ob, len, st, pc, reg, res, fp, bv, hb, att, ca, co, cn) (nI c) := by
  have hlt : pc c < len c := (by rw [hi, hL]; exact nI_lt hiL (by omega))
  refine ke_Xst0 hc (fun _ => ?_) (fun h => absurd hlt h)
  exact ⟨ke_i4 hc, nm_r (e' := 4) (by rw [ke_k4 hc, hs]) (br_f (by decide) (br_f (by decide) (br_f (by decide) (br_f (by decide) (br_f (by decide) (br_t rfl (br_t rfl (ke_Xms hc ho eq eb hi hL hL16 hiL hok hp9 hq4 hpp hp))))))))⟩
end
