/-! Y: the corners -/
theorem gy_Rm {n r : Nat} {w : Nat → Int} (hw : gz_sw n w) (hr : r < n) : gz_R w (-1) n (gz_ro w r) := by
  have hn := hw.1
  exact ⟨r, hr, gy_lo r (by omega), rfl⟩
theorem gy_Re {n : Nat} {w : Nat → Int} {g : gz_V} (h : gz_R w (-1) n g) : ∃ r, r < n ∧ g = gz_ro w r := by
  obtain ⟨r, hr, _, e⟩ := h
  exact ⟨r, hr, e⟩
theorem gy_c3 {n r j : Nat} {w : Nat → Int} {D : Nat → Int32} (hw : gz_sw n w) (hD : gz_cw n w D) (hr : r < n) (hj : j < 3) : D (3 * nI r + nI j).toNatClampNeg = gz_i (w (3 * r + j)) ∧ vp_in (3 * nI r + nI j) 15 := by
  have hn := hw.1
  rw [gx_ad3 (a := r) (b := j) (by omega)]
  exact ⟨hD _ (by omega), gx_vi3 (by omega) (by omega)⟩
theorem gy_c0 {n r : Nat} {w : Nat → Int} {D : Nat → Int32} (hw : gz_sw n w) (hD : gz_cw n w D) (hr : r < n) : D (3 * nI r).toNatClampNeg = gz_i (w (3 * r)) ∧ vp_in (3 * nI r) 15 := by
  have hn := hw.1
  rw [gx_cl3 (a := r) (by omega)]
  exact ⟨hD _ (by omega), gx_v3 (by omega) (by omega)⟩
theorem gy_yf {post : Int32 → SY → Prop} {ff fl : Int32} {D : Nat → Int32} {n : Nat} {w : Nat → Int} {a p q b s c : Int} (hw : gz_sw n w) (hD : gz_cw n w D)
    (hs : ∀ v, gz_Sp (gz_B a p q b s c) v ↔ gz_Sp (gz_R w (-1) n) v) (hH : gz_H a p q b s c) (hB : gz_Bd a p q b s c) (ha : a ≠ 0)
    (h : ∀ D', gz_cw n w D' → post (gz_i p) (nI n, ff, fl, D')) : wpY_yFor post (nI n, ff, fl, D) (gz_i a) := by
  have hn := hw.1
  obtain ⟨hZ, g1, g2, g3, hp, _⟩ := hH
  obtain ⟨k1, k2, k3, k4, k5, k6⟩ := hB
  unfold wpY_yFor
  dsimp only
  refine gy_s1 hw hD hs ⟨hZ, g1, g2, g3, hp, by assumption⟩ ?_
  intro D1 hD1
  by_cases hb : b = 0
  · have e : gy_sv b = -1000000 := if_pos hb
    rw [e]
    refine ⟨1, br_t (by decide) ?_⟩
    refine loop_0 (fun m r (_ : Unit) => wY_yFor_34 post (gz_i a) (nI n) ff fl D1 m (nI r)) (fun r _ => ∃ r1, r ≤ r1 ∧ r1 < n ∧ w (3 * r1) ≠ 0) n () ?_ ?_ ?_
    · obtain ⟨g, hg, hg1⟩ := gz_ex1 hs ha
      obtain ⟨r, hr, e⟩ := gy_Re hg
      subst e
      exact ⟨r, by omega, hr, hg1⟩
    · intro m _ ⟨r1, a1, a2, _⟩
      exact absurd a1 (by omega)
    · intro m r _ hr ⟨r1, a1, a2, a3⟩ K
      obtain ⟨c0, v0⟩ := gy_c0 hw hD1 hr
      obtain ⟨c1, v1⟩ := gy_c3 (j := 1) hw hD1 hr (by decide)
      have w0 := hw.2 (3 * r) (by omega)
      have w1 := hw.2 (3 * r + 1) (by omega)
      refine br_f (nI_ge hr (by omega)) ⟨v0, gz_be (w (3 * r)) 0 (fun e => ?_) (fun e => ?_) c0⟩
      · refine nm_r (nI_1 r) (K () ⟨r1, ?_, a2, a3⟩)
        by_cases e2 : r1 = r
        · subst e2; exact absurd e a3
        · omega
      · have hne : ¬ D1 (3 * nI r).toNatClampNeg = 0 := by
          rw [c0]
          exact fun e2 => e ((gz_iE (b := 0)).1 e2)
        refine ⟨v1, v0, hne, ?_⟩
        have ev : gz_i a * D1 (3 * nI r + 1).toNatClampNeg / D1 (3 * nI r).toNatClampNeg = gz_i p := by
          have c1' : D1 (3 * nI r + 1).toNatClampNeg = gz_i (w (3 * r + 1)) := c1
          have pb := gz_pm (show a.natAbs ≤ 9 by omega) w1
          rw [c0, c1', gz_im, gz_iD (a := a * w (3 * r + 1)) (b := w (3 * r))]
          exact gz_iq (gz_qy hs hb (gy_Rm hw hr) e)
        rw [ev]
        exact h D1 hD1
  · have e : gy_sv b = gz_i b := if_neg hb
    have hpb := hp hb
    rw [e]
    refine loop_0 (fun m y (E : Nat → Int32) => wY_yFor_8 post (gz_i a) (gz_i b) m (nI y) (nI n) ff fl E) (fun _ E => gz_cw n w E) p.toNat D1 hD1 ?_ ?_
    · intro m E hE
      have e1 : nI p.toNat = gz_i p := by rw [← gz_iN]; exact gz_iq (by omega)
      rw [e1]
      refine gz_bl b p (fun h1 => absurd h1 (by omega)) (fun _ => ?_)
      refine gy_has (z := 0) (cols := 2) hw hE (by omega) (by omega) (by decide) (by decide) (by decide) (fun _ E' hE' => ?_) (fun hno => ?_)
      · exact br_f (by decide) (h E' hE')
      · refine absurd ?_ hno
        have e2 : gz_pj 2 (a, p, 0) = (a, p, 0) := by apply gz_ext <;> simp [gz_pj]
        rw [e2]
        exact (gz_cy hs ha).2 ⟨0, by omega⟩
    · intro m y E hy hE K
      have e1 : nI y = gz_i (y : Int) := (gz_iN y).symm
      refine gz_bl b (y : Int) (fun h1 => absurd h1 (by omega)) (fun _ => ?_) rfl e1
      rw [e1]
      refine gy_has (z := 0) (cols := 2) hw hE (by omega) (by omega) (by decide) (by decide) (by decide) (fun hyes => ?_) (fun _ E' hE' => ?_)
      · have e2 : gz_pj 2 (a, (y : Int), 0) = (a, (y : Int), 0) := by apply gz_ext <;> simp [gz_pj]
        rw [e2] at hyes
        have e3 := gz_uq ((gz_cy hs ha).1 hyes) ⟨by omega, by omega⟩ hpb
        omega
      · refine br_t (by decide) (nm_r ?_ (K E' hE'))
        rw [← e1]
        exact nI_1 y
theorem gy_zo {post : Int32 → Prop} {ff fl : Int32} {D : Nat → Int32} {n : Nat} {w : Nat → Int} {x y v : Int} (hw : gz_sw n w) (hD : gz_cw n w D) (hx : x.natAbs ≤ 9) (hy : y.natAbs ≤ 162)
    (H1 : ∀ r s, r < n → s < n → gz_xy (gz_ro w r) (gz_ro w s) ≠ 0 → (y * gz_xz (gz_ro w r) (gz_ro w s) - x * gz_yz (gz_ro w r) (gz_ro w s)).tdiv (gz_xy (gz_ro w r) (gz_ro w s)) = v)
    (H2 : (∀ r s, r < n → s < n → gz_xy (gz_ro w r) (gz_ro w s) = 0) → ∀ r, r < n → (w (3 * r) ≠ 0 → (x * w (3 * r + 2)).tdiv (w (3 * r)) = v) ∧ (w (3 * r) = 0 → w (3 * r + 1) ≠ 0 → (y * w (3 * r + 2)).tdiv (w (3 * r + 1)) = v))
    (H3 : (∀ r s, r < n → s < n → gz_xy (gz_ro w r) (gz_ro w s) = 0) → ∃ r, r < n ∧ (w (3 * r) ≠ 0 ∨ w (3 * r + 1) ≠ 0))
    (h : post (gz_i v)) : wpY_zOver post (nI n, ff, fl, D) (gz_i x) (gz_i y) := by
  have hn := hw.1
  have hnn : n * n ≤ 16 := Nat.mul_le_mul hn hn
  refine loop_0 (fun m i (_ : Unit) => wY_zOver_2 post (gz_i x) (gz_i y) (nI n) ff fl D m (nI i)) (fun i _ => ∀ r s, r < n → s < n → r * n + s < i → gz_xy (gz_ro w r) (gz_ro w s) = 0) (n * n) () ?_ ?_ ?_
  · intro r s _ _ hlt
    exact absurd hlt (by omega)
  · intro m _ hall
    have hall2 : ∀ r s, r < n → s < n → gz_xy (gz_ro w r) (gz_ro w s) = 0 := by
      intro r s hr hs
      refine hall r s hr hs ?_
      have h1 : (r + 1) * n ≤ n * n := Nat.mul_le_mul_right n hr
      rw [Nat.add_mul, Nat.one_mul] at h1
      omega
    refine br_t (by rw [pk_mul]; exact nI_le (Nat.le_refl _) (by omega)) ?_
    refine loop_0 (fun m r (_ : Unit) => wY_zOver_85 post (gz_i x) (gz_i y) (nI n) ff fl D m (nI r)) (fun r _ => ∃ r1, r ≤ r1 ∧ r1 < n ∧ (w (3 * r1) ≠ 0 ∨ w (3 * r1 + 1) ≠ 0)) n () ?_ ?_ ?_
    · obtain ⟨r1, a1, a2⟩ := H3 hall2
      exact ⟨r1, by omega, a1, a2⟩
    · intro m _ ⟨r1, a1, a2, _⟩
      exact absurd a1 (by omega)
    · intro m r _ hr ⟨r1, a1, a2, a3⟩ K
      obtain ⟨c0, v0⟩ := gy_c0 hw hD hr
      obtain ⟨c1, v1⟩ := gy_c3 (j := 1) hw hD hr (by decide)
      obtain ⟨c2, v2⟩ := gy_c3 (j := 2) hw hD hr (by decide)
      have c1' : D (3 * nI r + 1).toNatClampNeg = gz_i (w (3 * r + 1)) := c1
      have c2' : D (3 * nI r + 2).toNatClampNeg = gz_i (w (3 * r + 2)) := c2
      have w0 := hw.2 (3 * r) (by omega)
      have w1 := hw.2 (3 * r + 1) (by omega)
      have w2 := hw.2 (3 * r + 2) (by omega)
      obtain ⟨q1, q2⟩ := H2 hall2 r hr
      refine br_f (nI_ge hr (by omega)) ⟨v0, gz_be (w (3 * r)) 0 (fun e => ?_) (fun e => ?_) c0⟩
      · refine ⟨v1, gz_be (w (3 * r + 1)) 0 (fun e1 => ?_) (fun e1 => ?_) c1'⟩
        · refine nm_r (nI_1 r) (K () ⟨r1, ?_, a2, a3⟩)
          by_cases e2 : r1 = r
          · subst e2
            rcases a3 with a3 | a3
            · exact absurd e a3
            · exact absurd e1 a3
          · omega
        · have hne : ¬ D (3 * nI r + 1).toNatClampNeg = 0 := by
            rw [c1']
            exact fun e2 => e1 ((gz_iE (b := 0)).1 e2)
          refine ⟨v2, v1, hne, ?_⟩
          have pb := gz_pm hy w2
          rw [c1', c2', gz_im, gz_iD (a := y * w (3 * r + 2)) (b := w (3 * r + 1)), q2 e e1]
          exact h
      · have hne : ¬ D (3 * nI r).toNatClampNeg = 0 := by
          rw [c0]
          exact fun e2 => e ((gz_iE (b := 0)).1 e2)
        refine ⟨v2, v0, hne, ?_⟩
        have pb := gz_pm hx w2
        rw [c0, c2', gz_im, gz_iD (a := x * w (3 * r + 2)) (b := w (3 * r)), q1 e]
        exact h
  · intro m i _ hi hall K
    have hn0 : 0 < n := by
      by_cases e : n = 0
      · subst e; omega
      · omega
    have hr : i / n < n := (Nat.div_lt_iff_lt_mul hn0).2 hi
    have hs : i % n < n := Nat.mod_lt i hn0
    have hne : ¬ nI n = 0 := nI_ne0 hn0 (by omega)
    have er := gy_ro hw hD hr
    have es := gy_ro hw hD hs
    have sb := gz_sm2 (gz_Rs (lo := -1) hw (Nat.le_refl n)) (gy_Rm hw hr) (gy_Rm hw hs)
    refine br_f (by rw [pk_mul]; exact nI_ge hi (by omega)) ⟨hne, nm_r (pk_div (by omega) hn0 (by omega)) ⟨hne, nm_r (pk_rem (by omega) hn0 (by omega)) (gy_xy (by omega) (by omega) ?_)⟩⟩
    rw [er, es]
    refine gz_be (gz_xy (gz_ro w (i / n)) (gz_ro w (i % n))) 0 (fun e => ?_) (fun e => ?_)
    · refine nm_r (nI_1 i) (K () (fun r s a1 a2 a3 => ?_))
      by_cases e2 : r * n + s = i
      · have e3 : i / n = r := by
          rw [← e2, Nat.mul_comm, Nat.mul_add_div hn0, Nat.div_eq_of_lt a2, Nat.add_zero]
        have e4 : i % n = s := by
          rw [← e2, Nat.mul_comm, Nat.mul_add_mod, Nat.mod_eq_of_lt a2]
        rw [e3, e4] at e
        exact e
      · exact hall r s a1 a2 (by omega)
    · refine gy_xz (by omega) (by omega) (gy_yz (by omega) (by omega) ?_)
      rw [er, es]
      refine ⟨fun e2 => e ((gz_iE (b := 0)).1 e2), ?_⟩
      have p1 := gz_pm hy sb.2.1
      have p2 := gz_pm hx sb.2.2
      rw [gz_im, gz_im, gz_is, gz_iD (a := y * gz_xz (gz_ro w (i / n)) (gz_ro w (i % n)) - x * gz_yz (gz_ro w (i / n)) (gz_ro w (i % n))) (b := gz_xy (gz_ro w (i / n)) (gz_ro w (i % n))), H1 _ _ hr hs e]
      exact h
theorem gy_zf {post : Int32 → SY → Prop} {ff fl : Int32} {D : Nat → Int32} {n : Nat} {w : Nat → Int} {a p q b s c x y v : Int} (hw : gz_sw n w) (hD : gz_cw n w D)
    (hs : ∀ v, gz_Sp (gz_B a p q b s c) v ↔ gz_Sp (gz_R w (-1) n) v) (hH : gz_H a p q b s c) (hB : gz_Bd a p q b s c) (hx : x.natAbs ≤ 9) (hy : y.natAbs ≤ 162)
    (Hz : c = 0 → ∀ (post : Int32 → Prop) (ff fl : Int32) (D : Nat → Int32), gz_cw n w D → post (gz_i v) → wpY_zOver post (nI n, ff, fl, D) (gz_i x) (gz_i y))
    (Hc : c ≠ 0 → 0 ≤ v ∧ v < c ∧ ∀ z : Int, gz_Sp (gz_R w (-1) n) (x, y, z) ↔ c ∣ z - v)
    (h : ∀ D', gz_cw n w D' → post (gz_i v) (nI n, ff, fl, D')) : wpY_zFor post (nI n, ff, fl, D) (gz_i x) (gz_i y) := by
  have hn := hw.1
  obtain ⟨k1, k2, k3, k4, k5, k6⟩ := hB
  have g3 := hH.2.2.2.1
  unfold wpY_zFor
  dsimp only
  refine gy_s2s hw hD hs hH ?_
  intro D1 hD1
  by_cases hc : c = 0
  · have e : gy_sv c = -1000000 := if_pos hc
    rw [e]
    exact br_t rfl (Hz hc _ ff fl D1 hD1 (h D1 hD1))
  · have e : gy_sv c = gz_i c := if_neg hc
    rw [e]
    obtain ⟨v1, v2, v3⟩ := Hc hc
    refine gz_be c (-1000000) (fun e => absurd e (by omega)) (fun _ => ?_)
    refine loop_0 (fun m z (E : Nat → Int32) => wY_zFor_22 post (gz_i x) (gz_i y) (gz_i c) m (nI z) (nI n) ff fl E) (fun _ E => gz_cw n w E) v.toNat D1 hD1 ?_ ?_
    · intro m E hE
      have e1 : nI v.toNat = gz_i v := by rw [← gz_iN]; exact gz_iq (by omega)
      rw [e1]
      refine gz_bl c v (fun h1 => absurd h1 (by omega)) (fun _ => ?_)
      refine gy_has (cols := 3) hw hE (by omega) (by omega) (by omega) (by decide) (by decide) (fun _ E' hE' => ?_) (fun hno => ?_)
      · exact br_f (by decide) (h E' hE')
      · refine absurd ?_ hno
        rw [gz_pj3]
        exact gz_Sp3.2 ((v3 v).2 ⟨0, by omega⟩)
    · intro m z E hz hE K
      have e1 : nI z = gz_i (z : Int) := (gz_iN z).symm
      refine gz_bl c (z : Int) (fun h1 => absurd h1 (by omega)) (fun _ => ?_) rfl e1
      rw [e1]
      refine gy_has (cols := 3) hw hE (by omega) (by omega) (by omega) (by decide) (by decide) (fun hyes => ?_) (fun _ E' hE' => ?_)
      · rw [gz_pj3] at hyes
        have e3 := gz_uq ((v3 z).1 (gz_Sp3.1 hyes)) ⟨by omega, by omega⟩ ⟨v1, v2⟩
        omega
      · refine br_t (by decide) (nm_r ?_ (K E' hE'))
        rw [← e1]
        exact nI_1 z
