/-! Y: which rows a mask names; has, step -/
def gy_mk (n : Nat) : Int32 := ((1 : Int32) <<< (nI n &&& 31)) - 1
theorem gy_b1 : ∀ n, n < 5 → ∀ r, r < 5 → (((gy_mk n >>> (nI r &&& 31)) &&& 1) = 1 ↔ r < n) := by decide
theorem gy_b2 : ∀ n, n < 5 → ∀ r, r < 5 → ((((gy_mk n ||| 16) >>> (nI r &&& 31)) &&& 1) = 1 ↔ r < n ∨ r = 4) := by decide
theorem gy_b3 : ∀ n, n < 5 → ∀ k, k < 5 → ∀ r, r < 5 → ((((gy_mk n &&& (((1 : Int32) <<< (nI k &&& 31)) ^^^ (-1))) >>> (nI r &&& 31)) &&& 1) = 1 ↔ r < n ∧ ¬ r = k) := by decide
theorem gy_b4 : ∀ n, n < 5 → ∀ k, k < 4 → ∀ r, r < 5 → (((((gy_mk n &&& (((1 : Int32) <<< (nI k &&& 31)) ^^^ (-1))) ||| 16) >>> (nI r &&& 31)) &&& 1) = 1 ↔ (r < n ∧ ¬ r = k) ∨ r = 4) := by decide
theorem gy_lo : ∀ r, r < 5 → ¬ nI r = (-1 : Int32) := by decide
theorem gy_ro {n r : Nat} {w : Nat → Int} {D : Nat → Int32} (hw : gz_sw n w) (hD : gz_cw n w D) (hr : r < n) : gz_ro (gz_W D) r = gz_ro w r := by
  have k : ∀ j, j < 3 * n → gz_W D j = w j := by
    intro j hj
    have hb := hw.2 j hj
    show (D j).toInt = w j
    rw [hD j hj]
    exact gz_iT (by omega)
  exact gz_ext (k _ (by omega)) (k _ (by omega)) (k _ (by omega))
theorem gy_st1 {n cols : Nat} {w : Nat → Int} {D : Nat → Int32} {m lo : Int32} (hw : gz_sw n w) (hD : gz_cw n w D) (hb : ∀ r, r < 5 → (gz_bit m r ↔ r < n ∧ ¬ nI r = lo)) (u : gz_V) :
    gz_G 5 (gz_bit m) (gy_row cols D) u ↔ gz_pr cols (gz_R w lo n) u := by
  have hn := hw.1
  constructor
  · intro ⟨r, hr, hbr, e⟩
    obtain ⟨h1, h2⟩ := (hb r hr).1 hbr
    refine ⟨gz_ro w r, ⟨r, h1, h2, rfl⟩, ?_⟩
    rw [e, ← gy_ro hw hD h1]
    rfl
  · intro ⟨v, ⟨r, hr, hlo, e⟩, e2⟩
    refine ⟨r, by omega, (hb r (by omega)).2 ⟨hr, hlo⟩, ?_⟩
    rw [e2, e, ← gy_ro hw hD hr]
    rfl
theorem gy_st2 {n cols : Nat} {w : Nat → Int} {D : Nat → Int32} {m lo : Int32} (hw : gz_sw n w) (hD : gz_cw n w D) (hb : ∀ r, r < 5 → (gz_bit (m ||| 16) r ↔ (r < n ∧ ¬ nI r = lo) ∨ r = 4)) (u : gz_V) :
    gz_G 5 (gz_bit (m ||| 16)) (gy_row cols D) u ↔ gz_pl (gz_pr cols (gz_R w lo n)) (gy_row cols D 4) u := by
  have hn := hw.1
  constructor
  · intro ⟨r, hr, hbr, e⟩
    rcases (hb r hr).1 hbr with ⟨h1, h2⟩ | h4
    · refine Or.inl ⟨gz_ro w r, ⟨r, h1, h2, rfl⟩, ?_⟩
      rw [e, ← gy_ro hw hD h1]
      rfl
    · subst h4
      exact Or.inr e
  · intro hu
    rcases hu with ⟨v, ⟨r, hr, hlo, e⟩, e2⟩ | e
    · refine ⟨r, by omega, (hb r (by omega)).2 (Or.inl ⟨hr, hlo⟩), ?_⟩
      rw [e2, e, ← gy_ro hw hD hr]
      rfl
    · exact ⟨4, by decide, (hb 4 (by decide)).2 (Or.inr rfl), e⟩
theorem gy_ordW {post : Int32 → Prop} {fc ff fl m lo : Int32} {D : Nat → Int32} {n cols : Nat} {w : Nat → Int} {x y z : Int} (hw : gz_sw n w) (hD : gz_cw n w D) (h4 : gz_ro (gz_W D) 4 = (x, y, z))
    (hx : x.natAbs ≤ 5000) (hy : y.natAbs ≤ 5000) (hz : z.natAbs ≤ 5000)
    (hb : ∀ r, r < 5 → (gz_bit m r ↔ r < n ∧ ¬ nI r = lo)) (hb2 : ∀ r, r < 5 → (gz_bit (m ||| 16) r ↔ (r < n ∧ ¬ nI r = lo) ∨ r = 4)) (hc : 1 ≤ cols) (hc3 : cols ≤ 3)
    (h0 : gz_Or (gz_pr cols (gz_R w lo n)) (gz_pj cols (x, y, z)) 0 → post (-1000000))
    (h1 : ∀ e : Int, 0 < e → e ≤ 2430000 → gz_Or (gz_pr cols (gz_R w lo n)) (gz_pj cols (x, y, z)) e → post (gz_i e)) : wpY_orderOf post (fc, ff, fl, D) m (nI cols) := by
  have hn := hw.1
  have e4 : gy_row cols D 4 = gz_pj cols (x, y, z) := by
    show gz_pj cols (gz_ro (gz_W D) 4) = _
    rw [h4]
  refine gy_ord (G := gz_pr cols (gz_R w lo n)) ?_ (fun r hr h => (hb2 r hr).2 (Or.inl ((hb r hr).1 h))) hc hc3 (gy_st1 hw hD hb) (gy_st2 hw hD hb2) (by rw [e4]; exact h0) (by rw [e4]; exact h1)
  intro r hr hbr
  rcases (hb2 r hr).1 hbr with ⟨k1, _⟩ | k1
  · rw [gy_ro hw hD k1]
    have a1 := hw.2 (3 * r) (by omega)
    have a2 := hw.2 (3 * r + 1) (by omega)
    have a3 := hw.2 (3 * r + 2) (by omega)
    exact ⟨Nat.le_trans a1 (by decide), Nat.le_trans a2 (by decide), Nat.le_trans a3 (by decide), fun _ => ⟨a1, a2, a3⟩⟩
  · subst k1
    rw [h4]
    exact ⟨hx, hy, hz, fun h => absurd h (by decide)⟩
theorem gy_put {post : SY → Prop} {fc ff fl : Int32} {D : Nat → Int32} {n : Nat} {w : Nat → Int} {x y z : Int} (hw : gz_sw n w) (hD : gz_cw n w D) (hx : x.natAbs ≤ 5000) (hy : y.natAbs ≤ 5000) (hz : z.natAbs ≤ 5000)
    (h : ∀ D', gz_cw n w D' → gz_ro (gz_W D') 4 = (x, y, z) → post (fc, ff, fl, D')) : wpY_put post (fc, ff, fl, D) 4 (gz_i x) (gz_i y) (gz_i z) := by
  have hn := hw.1
  have v0 : vp_in ((3 : Int32) * 4) 15 := gx_v3 (a := 4) (by decide) (by decide)
  have v1 : vp_in ((3 : Int32) * 4 + 1) 15 := gx_vi31 (a := 4) (by decide) (by decide)
  have v2 : vp_in ((3 : Int32) * 4 + 2) 15 := gx_vi32 (a := 4) (by decide) (by decide)
  have e0 : ((3 : Int32) * 4).toNatClampNeg = 12 := gx_cl3 (a := 4) (by decide)
  have e1 : ((3 : Int32) * 4 + 1).toNatClampNeg = 13 := gx_ad31 (a := 4) (by decide)
  have e2 : ((3 : Int32) * 4 + 2).toNatClampNeg = 14 := gx_ad32 (a := 4) (by decide)
  refine And.intro v0 (nm_e ⟨v1, nm_e ⟨v2, nm_e ?_⟩⟩)
  rw [e0, e1, e2]
  refine h _ ?_ ?_
  · intro j hj
    rw [pk_un (by omega), pk_un (by omega), pk_un (by omega)]
    exact hD j hj
  · refine gz_ext ?_ ?_ ?_
    · show (upd (upd (upd D 12 (gz_i x)) 13 (gz_i y)) 14 (gz_i z) 12).toInt = x
      rw [pk_un (by decide), pk_un (by decide), pk_us]
      exact gz_iT (by omega)
    · show (upd (upd (upd D 12 (gz_i x)) 13 (gz_i y)) 14 (gz_i z) 13).toInt = y
      rw [pk_un (by decide), pk_us]
      exact gz_iT (by omega)
    · show (upd (upd (upd D 12 (gz_i x)) 13 (gz_i y)) 14 (gz_i z) 14).toInt = z
      rw [pk_us]
      exact gz_iT (by omega)
theorem gy_bA {n : Nat} (hn : n ≤ 4) (r : Nat) (hr : r < 5) : gz_bit (gy_mk n) r ↔ r < n ∧ ¬ nI r = (-1 : Int32) :=
  (gy_b1 n (by omega) r hr).trans ⟨fun h => ⟨h, gy_lo r hr⟩, fun h => h.1⟩
theorem gy_bB {n : Nat} (hn : n ≤ 4) (r : Nat) (hr : r < 5) : gz_bit (gy_mk n ||| 16) r ↔ (r < n ∧ ¬ nI r = (-1 : Int32)) ∨ r = 4 :=
  (gy_b2 n (by omega) r hr).trans ⟨fun h => h.elim (fun h => Or.inl ⟨h, gy_lo r hr⟩) Or.inr, fun h => h.elim (fun h => Or.inl h.1) Or.inr⟩
theorem gy_all {post : Int32 → Prop} {ff fl : Int32} {D : Nat → Int32} {n : Nat} (h : post (gy_mk n)) : wpY_allRows post (nI n, ff, fl, D) := h
theorem gy_has {post : Int32 → SY → Prop} {ff fl : Int32} {D : Nat → Int32} {n cols : Nat} {w : Nat → Int} {x y z : Int} (hw : gz_sw n w) (hD : gz_cw n w D) (hx : x.natAbs ≤ 5000) (hy : y.natAbs ≤ 5000) (hz : z.natAbs ≤ 5000)
    (hc : 1 ≤ cols) (hc3 : cols ≤ 3)
    (h1 : gz_Sp (gz_pr cols (gz_R w (-1) n)) (gz_pj cols (x, y, z)) → ∀ D', gz_cw n w D' → post 1 (nI n, ff, fl, D'))
    (h0 : ¬ gz_Sp (gz_pr cols (gz_R w (-1) n)) (gz_pj cols (x, y, z)) → ∀ D', gz_cw n w D' → post 0 (nI n, ff, fl, D')) :
    wpY_hasIn post (nI n, ff, fl, D) (gz_i x) (gz_i y) (gz_i z) (nI cols) := by
  have hn := hw.1
  unfold wpY_hasIn
  dsimp only
  refine gy_put hw hD hx hy hz ?_
  intro D' hD' h4
  refine gy_all ?_
  refine gy_ordW (m := gy_mk n) (lo := -1) hw hD' h4 hx hy hz (gy_bA hn) (gy_bB hn) hc hc3 (fun o => ?_) (fun e e1 e2 o => ?_)
  · exact br_f (by decide) (h0 (fun hs => absurd ((gz_Or1 o).1 hs) (by decide)) D' hD')
  · exact gz_be e 1 (fun ee => h1 ((gz_Or1 o).2 ee) D' hD') (fun ee => h0 (fun hs => ee ((gz_Or1 o).1 hs)) D' hD')
/-- a step as the answer shows it -/
def gy_sv (d : Int) : Int32 := if d = 0 then -1000000 else gz_i d
theorem gy_ordv {G : gz_V → Prop} {v : gz_V} {d : Int} {post : Int32 → Prop} (hd : gz_Or G v d) (h : post (gy_sv d)) :
    (gz_Or G v 0 → post (-1000000)) ∧ (∀ e : Int, 0 < e → e ≤ 2430000 → gz_Or G v e → post (gz_i e)) := by
  constructor
  · intro o
    have e := gz_Oru hd o
    subst e
    exact h
  · intro e e1 _ o
    have e2 := gz_Oru hd o
    subst e2
    have e3 : gy_sv d = gz_i d := if_neg (by omega)
    rw [e3] at h
    exact h
theorem gy_s0 {post : Int32 → SY → Prop} {ff fl : Int32} {D : Nat → Int32} {n : Nat} {w : Nat → Int} {a p q b s c : Int} (hw : gz_sw n w) (hD : gz_cw n w D)
    (hs : ∀ v, gz_Sp (gz_B a p q b s c) v ↔ gz_Sp (gz_R w (-1) n) v) (hH : gz_H a p q b s c) (h : ∀ D', gz_cw n w D' → post (gy_sv a) (nI n, ff, fl, D')) : wpY_step post (nI n, ff, fl, D) 0 := by
  have hn := hw.1
  refine br_f (by decide) (br_t (by decide) (br_t (by decide) (br_f (by decide) (br_f (by decide) ?_))))
  refine gy_put (x := 1) (y := 0) (z := 0) hw hD (by decide) (by decide) (by decide) ?_
  intro D' hD' h4
  have o := gy_ordv (post := fun r => post r (nI n, ff, fl, D')) (gz_o0 hs hH.2.1) (h D' hD')
  have e : gz_pj 1 (1, 0, 0) = (1, 0, 0) := by apply gz_ext <;> simp [gz_pj]
  rw [← e] at o
  refine gy_all ?_
  exact gy_ordW (post := fun r => post r (nI n, ff, fl, D')) (m := gy_mk n) (lo := -1) (cols := 1) hw hD' h4 (by decide) (by decide) (by decide) (gy_bA hn) (gy_bB hn) (by decide) (by decide) o.1 o.2
theorem gy_s1 {post : Int32 → SY → Prop} {ff fl : Int32} {D : Nat → Int32} {n : Nat} {w : Nat → Int} {a p q b s c : Int} (hw : gz_sw n w) (hD : gz_cw n w D)
    (hs : ∀ v, gz_Sp (gz_B a p q b s c) v ↔ gz_Sp (gz_R w (-1) n) v) (hH : gz_H a p q b s c) (h : ∀ D', gz_cw n w D' → post (gy_sv b) (nI n, ff, fl, D')) : wpY_step post (nI n, ff, fl, D) 1 := by
  have hn := hw.1
  refine br_f (by decide) (br_t (by decide) (br_f (by decide) (br_t (by decide) (br_f (by decide) ?_))))
  refine gy_put (x := 0) (y := 1) (z := 0) hw hD (by decide) (by decide) (by decide) ?_
  intro D' hD' h4
  have o := gy_ordv (post := fun r => post r (nI n, ff, fl, D')) (gz_o1 hs hH.1 hH.2.2.1) (h D' hD')
  have e : gz_pj 2 (0, 1, 0) = (0, 1, 0) := by apply gz_ext <;> simp [gz_pj]
  rw [← e] at o
  refine gy_all ?_
  exact gy_ordW (post := fun r => post r (nI n, ff, fl, D')) (m := gy_mk n) (lo := -1) (cols := 2) hw hD' h4 (by decide) (by decide) (by decide) (gy_bA hn) (gy_bB hn) (by decide) (by decide) o.1 o.2
theorem gy_s2s {post : Int32 → SY → Prop} {ff fl : Int32} {D : Nat → Int32} {n : Nat} {w : Nat → Int} {a p q b s c : Int} (hw : gz_sw n w) (hD : gz_cw n w D)
    (hs : ∀ v, gz_Sp (gz_B a p q b s c) v ↔ gz_Sp (gz_R w (-1) n) v) (hH : gz_H a p q b s c) (h : ∀ D', gz_cw n w D' → post (gy_sv c) (nI n, ff, fl, D')) : wpY_step post (nI n, ff, fl, D) 2 := by
  have hn := hw.1
  refine br_f (by decide) (br_t (by decide) (br_f (by decide) (br_f (by decide) (br_t (by decide) ?_))))
  refine gy_put (x := 0) (y := 0) (z := 1) hw hD (by decide) (by decide) (by decide) ?_
  intro D' hD' h4
  have o := gy_ordv (post := fun r => post r (nI n, ff, fl, D')) (gz_o2 hs hH.1 hH.2.2.2.1) (h D' hD')
  have e : gz_pj 3 (0, 0, 1) = (0, 0, 1) := gz_pj3 _
  rw [← e] at o
  refine gy_all ?_
  exact gy_ordW (post := fun r => post r (nI n, ff, fl, D')) (m := gy_mk n) (lo := -1) (cols := 3) hw hD' h4 (by decide) (by decide) (by decide) (gy_bA hn) (gy_bB hn) (by decide) (by decide) o.1 o.2
