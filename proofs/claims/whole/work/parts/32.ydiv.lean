/-! Y: D(k) of a set of rows in the first columns; rank; order -/
def gy_row (cols : Nat) (D : Nat → Int32) : Nat → gz_V := fun r => gz_pj cols (gz_ro (gz_W D) r)
/-- what the inner turn s of row r asks of a divisor d -/
def gy_Q (k cols : Nat) (m : Int32) (D : Nat → Int32) (d : Int) (r s : Nat) : Prop :=
  match k with
  | 1 => d ∣ gz_W D (3 * r + s)
  | 2 => gz_bit m s → d ∣ gz_xy (gy_row cols D r) (gy_row cols D s) ∧ d ∣ gz_xz (gy_row cols D r) (gy_row cols D s) ∧ d ∣ gz_yz (gy_row cols D r) (gy_row cols D s)
  | _ => gz_bit m s → ∀ t, t < s → gz_bit m t → d ∣ gz_dt (gy_row cols D r) (gy_row cols D s) (gy_row cols D t)
def gy_lim (k cols r : Nat) : Nat := if k = 1 then cols else r
theorem gy_dtz {cols : Nat} {D : Nat → Int32} {r s t : Nat} (h : cols ≤ 2) : gz_dt (gy_row cols D r) (gy_row cols D s) (gy_row cols D t) = 0 := by
  have h3 : ¬ 3 ≤ cols := by omega
  simp [gz_dt, gz_xy, gz_xz, gz_yz, gy_row, gz_pj, h3]
theorem gy_123 {post : Int32 → Prop} {J12 J34 : Int32 → Int32 → Prop} {x1 x2 x3 x5 x6 fc ff fl : Int32} {D : Nat → Int32} {s : Nat} {g m : Int} (hg : g.natAbs ≤ 2430000) (hm : m.natAbs ≤ 2430000)
    (h : J34 (gz_i (Int.gcd g m)) (nI (s + 1))) : wY_divisorOf_123 post J12 J34 x1 x2 x3 (gz_i g) x5 x6 (nI s) (gz_i m) fc ff fl D := by
  unfold wY_divisorOf_123
  exact gy_gcd (by omega) (by omega) (nm_r (nI_1 s) h)
theorem gy_34 {post : Int32 → Prop} {J : Int32 → Int32 → Prop} {fc ff fl m : Int32} {D : Nat → Int32} {k cols r : Nat} {g0 : Int} (hsm : gy_sm m D) (hk : k = 1 ∨ k = 2 ∨ k = 3) (hc : 1 ≤ cols) (hc3 : cols ≤ 3) (hr : r < 5)
    (hg : g0.natAbs ≤ 2430000)
    (h : ∀ g : Int, 0 ≤ g ∨ g = g0 → g.natAbs ≤ 2430000 → (∀ d, d ∣ g ↔ d ∣ g0 ∧ (gz_bit m r → ∀ s, s < gy_lim k cols r → gy_Q k cols m D d r s)) → J (gz_i g) (nI (r + 1))) :
    ∃ n, wY_divisorOf_34 post J (nI k) m (nI cols) (nI r) (nI (gy_lim k cols r)) fc ff fl D n (gz_i g0) 0 := by
  have hL : gy_lim k cols r ≤ 4 := by
    unfold gy_lim
    split <;> omega
  by_cases br : gz_bit m r
  · refine loop_0 (fun n s (g : Int) => wY_divisorOf_34 post J (nI k) m (nI cols) (nI r) (nI (gy_lim k cols r)) fc ff fl D n (gz_i g) (nI s))
      (fun s g => (0 ≤ g ∨ g = g0) ∧ g.natAbs ≤ 2430000 ∧ ∀ d, d ∣ g ↔ d ∣ g0 ∧ ∀ s', s' < s → gy_Q k cols m D d r s') (gy_lim k cols r) g0
      ⟨Or.inr rfl, hg, fun d => ⟨fun x => ⟨x, fun s hs => absurd hs (by omega)⟩, fun x => x.1⟩⟩ ?_ ?_
    · intro n g ⟨h1, h2, h3⟩
      exact br_t (nI_le (Nat.le_refl _) (by omega)) (nm_r (nI_1 r) (h g h1 h2 (fun d => (h3 d).trans ⟨fun x => ⟨x.1, fun _ => x.2⟩, fun x => ⟨x.1, x.2 br⟩⟩)))
    · intro n s g hs ⟨h1, h2, h3⟩ K
      have key : ∀ v : Int, v.natAbs ≤ 2430000 → (∀ d, d ∣ v ↔ gy_Q k cols m D d r s) →
          wY_divisorOf_34 post J (nI k) m (nI cols) (nI r) (nI (gy_lim k cols r)) fc ff fl D n (gz_i (Int.gcd g v)) (nI (s + 1)) := by
        intro v hv hq
        refine K (Int.gcd g v : Int) ⟨Or.inl (Int.natCast_nonneg _), by rw [gz_nng]; exact gz_gle h2 hv, fun d => ?_⟩
        rw [Int.dvd_coe_gcd_iff, h3, hq]
        constructor
        · intro ⟨⟨x1, x2⟩, x3⟩
          refine ⟨x1, fun s' hs' => ?_⟩
          by_cases e : s' = s
          · subst e; exact x3
          · exact x2 s' (by omega)
        · intro ⟨x1, x2⟩
          exact ⟨⟨x1, fun s' hs' => x2 s' (by omega)⟩, x2 s (by omega)⟩
      refine br_f (nI_ge hs (by omega)) (br_t br ?_)
      rcases hk with rfl | rfl | rfl
      · have hsc : s < cols := by
          have : gy_lim 1 cols r = cols := if_pos rfl
          omega
        have e1 : (3 * nI r + nI s).toNatClampNeg = 3 * r + s := gx_ad3 (by omega)
        refine br_t (by decide) ⟨gx_vi3 (by omega) (by omega), nm_r (e' := gz_i (gz_W D (3 * r + s))) (by rw [e1]; exact gz_WD D _) ?_⟩
        have hb : (gz_W D (3 * r + s)).natAbs ≤ 5000 := by
          obtain ⟨u1, u2, u3, _⟩ := hsm r hr br
          have hs3 : s = 0 ∨ s = 1 ∨ s = 2 := by omega
          rcases hs3 with rfl | rfl | rfl
          · exact u1
          · exact u2
          · exact u3
        exact gy_123 h2 (by omega) (key _ (by omega) (fun d => Iff.rfl))
      · have hsr : s < r := hs
        refine br_f (by decide) (br_c (fun bs => ?_) (fun bs => ?_))
        · refine br_t (by decide) (gy_pd hsm hr hsr br bs hc hc3 ?_)
          intro v hv hq
          exact gy_123 h2 (by omega) (key v (by omega) (fun d => (hq d).trans ⟨fun x _ => x, fun x => x bs⟩))
        · exact gy_123 (m := 0) h2 (by decide) (key 0 (by decide) (fun d => ⟨fun _ x => absurd x bs, fun _ => Int.dvd_zero d⟩))
      · have hsr : s < r := hs
        refine br_f (by decide) (br_c (fun bs => ?_) (fun bs => ?_))
        · refine br_f (by decide) (pk_le cols 2 (fun hle => ?_) (fun hlt => ?_))
          · exact gy_123 (m := 0) h2 (by decide) (key 0 (by decide) (fun d => ⟨fun _ _ t _ _ => by rw [gy_dtz hle]; exact Int.dvd_zero d, fun _ => Int.dvd_zero d⟩))
          · have e3 : cols = 3 := by omega
            subst e3
            refine gy_td hsm hr hsr br bs ?_
            intro v hv hq
            refine gy_123 h2 hv (key v hv (fun d => (hq d).trans ?_))
            show _ ↔ (gz_bit m s → ∀ t, t < s → gz_bit m t → d ∣ gz_dt (gy_row 3 D r) (gy_row 3 D s) (gy_row 3 D t))
            unfold gy_row
            simp only [gz_pj3]
            exact ⟨fun x _ => x, fun x => x bs⟩
        · exact gy_123 (m := 0) h2 (by decide) (key 0 (by decide) (fun d => ⟨fun _ x => absurd x bs, fun _ => Int.dvd_zero d⟩))
  · refine ⟨1, ?_⟩
    have hJ := h g0 (Or.inr rfl) hg (fun d => ⟨fun x => ⟨x, fun y => absurd y br⟩, fun x => x.1⟩)
    exact pk_le (gy_lim k cols r) 0 (fun _ => nm_r (nI_1 r) hJ) (fun _ => br_f br (nm_r (nI_1 r) hJ))
theorem gy_q1 {cols : Nat} {D : Nat → Int32} {d : Int} {r : Nat} (hc : 1 ≤ cols) (hc3 : cols ≤ 3) : (∀ s, s < cols → d ∣ gz_W D (3 * r + s)) ↔ d ∣ (gy_row cols D r).1 ∧ d ∣ (gy_row cols D r).2.1 ∧ d ∣ (gy_row cols D r).2.2 := by
  have hcs : cols = 1 ∨ cols = 2 ∨ cols = 3 := by omega
  rcases hcs with rfl | rfl | rfl
  · constructor
    · intro h
      exact ⟨h 0 (by decide), Int.dvd_zero d, Int.dvd_zero d⟩
    · intro ⟨h, _, _⟩ s hs
      have e : s = 0 := by omega
      subst e
      exact h
  · constructor
    · intro h
      exact ⟨h 0 (by decide), h 1 (by decide), Int.dvd_zero d⟩
    · intro ⟨h1, h2, _⟩ s hs
      have e : s = 0 ∨ s = 1 := by omega
      rcases e with rfl | rfl
      · exact h1
      · exact h2
  · constructor
    · intro h
      exact ⟨h 0 (by decide), h 1 (by decide), h 2 (by decide)⟩
    · intro ⟨h1, h2, h3⟩ s hs
      have e : s = 0 ∨ s = 1 ∨ s = 2 := by omega
      rcases e with rfl | rfl | rfl
      · exact h1
      · exact h2
      · exact h3
theorem gy_M {k cols : Nat} {m : Int32} {D : Nat → Int32} {d : Int} (hk : k = 1 ∨ k = 2 ∨ k = 3) (hc : 1 ≤ cols) (hc3 : cols ≤ 3) :
    (∀ r, r < 5 → gz_bit m r → ∀ s, s < gy_lim k cols r → gy_Q k cols m D d r s) ↔ gz_M k (gz_G 5 (gz_bit m) (gy_row cols D)) (fun x => d ∣ x) := by
  rcases hk with rfl | rfl | rfl
  · rw [gz_M1o]
    exact ⟨fun h r hr hb => (gy_q1 hc hc3).1 (h r hr hb), fun h r hr hb => (gy_q1 hc hc3).2 (h r hr hb)⟩
  · rw [gz_M2o]
    exact ⟨fun h r hr hb s hs hbs => h r hr hb s hs hbs, fun h r hr hb s hs hbs => h r hr hb s hs hbs⟩
  · rw [gz_M3o]
    exact ⟨fun h r hr hb s hs hbs t ht hbt => h r hr hb s hs hbs t ht hbt, fun h r hr hb s hs hbs t ht hbt => h r hr hb s hs hbs t ht hbt⟩
theorem gy_div {post : Int32 → Prop} {fc ff fl m : Int32} {D : Nat → Int32} {k cols : Nat} (hsm : gy_sm m D) (hk : k ≤ 3) (hc : 1 ≤ cols) (hc3 : cols ≤ 3)
    (h : ∀ g : Int, 0 ≤ g → g ≤ 2430000 → gz_D k (gz_G 5 (gz_bit m) (gy_row cols D)) g → post (gz_i g)) : wpY_divisorOf post (fc, ff, fl, D) (nI k) m (nI cols) := by
  refine pk_eq k 0 (fun e => ?_) (fun hk0 => ?_)
  · subst e
    exact h 1 (by decide) (by decide) (gz_Dk0 _)
  · have hk3 : k = 1 ∨ k = 2 ∨ k = 3 := by omega
    refine loop_0 (fun n r (g : Int) => wY_divisorOf_12 post (nI k) m (nI cols) fc ff fl D n (gz_i g) (nI r))
      (fun r g => 0 ≤ g ∧ g.natAbs ≤ 2430000 ∧ ∀ d, d ∣ g ↔ ∀ r', r' < r → gz_bit m r' → ∀ s, s < gy_lim k cols r' → gy_Q k cols m D d r' s) 5 0
      ⟨by decide, by decide, fun d => ⟨fun _ r hr => absurd hr (by omega), fun _ => Int.dvd_zero d⟩⟩ ?_ ?_
    · intro n g ⟨h1, h2, h3⟩
      exact br_t (by decide) (h g h1 (by omega) ⟨h1, fun d => (h3 d).trans (gy_M hk3 hc hc3)⟩)
    · intro n r g hr ⟨h1, h2, h3⟩ K
      have go : ∃ n1, wY_divisorOf_34 post (wY_divisorOf_12 post (nI k) m (nI cols) fc ff fl D n) (nI k) m (nI cols) (nI r) (nI (gy_lim k cols r)) fc ff fl D n1 (gz_i g) 0 := by
        refine gy_34 hsm hk3 hc hc3 hr h2 ?_
        intro g' a1 a2 a3
        refine K g' ⟨by omega, a2, fun d => ?_⟩
        rw [a3, h3]
        constructor
        · intro ⟨x1, x2⟩ r' hr' hb
          by_cases e : r' = r
          · subst e; exact x2 hb
          · exact x1 r' (by omega) hb
        · intro x
          exact ⟨fun r' hr' hb => x r' (by omega) hb, x r (by omega)⟩
      refine br_f (nI_ge (b := 5) hr (by decide)) (pk_eq k 1 (fun e => ?_) (fun e => ?_))
      · have el : gy_lim k cols r = cols := if_pos e
        rw [el] at go
        exact go
      · have el : gy_lim k cols r = r := if_neg e
        rw [el] at go
        exact go
theorem gy_rank {post : Int32 → Prop} {fc ff fl m : Int32} {D : Nat → Int32} {cols : Nat} (hsm : gy_sm m D) (hc : 1 ≤ cols) (hc3 : cols ≤ 3)
    (h : ∀ r : Nat, gz_Rk (gz_G 5 (gz_bit m) (gy_row cols D)) r → post (nI r)) : wpY_rankOf post (fc, ff, fl, D) m (nI cols) := by
  refine pk_loop (fun n k (r : Nat) => wY_rankOf_5 post m (nI cols) fc ff fl D n (nI r) (nI k))
    (fun k r => r < k ∧ 1 ≤ k ∧ ¬ gz_M r (gz_G 5 (gz_bit m) (gy_row cols D)) (fun x => (0 : Int) ∣ x) ∧ ∀ j, r < j → j < k → gz_M j (gz_G 5 (gz_bit m) (gy_row cols D)) (fun x => (0 : Int) ∣ x)) 4 1 0 (by decide) ?_ ?_ ?_
  · exact ⟨by decide, by decide, fun h => absurd (Int.zero_dvd.1 h) (by decide), fun j h1 h2 => absurd h1 (by omega)⟩
  · intro n r ⟨h1, h2, h3, h4⟩
    exact br_t (by decide) (h r ⟨by omega, h3, fun j a b => h4 j a (by omega)⟩)
  · intro n k r hk ⟨h1, h2, h3, h4⟩ K
    refine br_f (nI_ge (b := 4) hk (by decide)) (gy_div hsm (by omega) hc hc3 ?_)
    intro g g1 g2 g3
    refine gz_be g 0 (fun e => ?_) (fun e => ?_)
    · refine nm_r (nI_1 k) (K r ⟨by omega, by omega, h3, fun j a b => ?_⟩)
      by_cases ej : j = k
      · subst ej; exact (gz_D0 g3).1 e
      · exact h4 j a (by omega)
    · exact nm_r (nI_1 k) (K k ⟨by omega, by omega, fun hM => e ((gz_D0 g3).2 hM), fun j a b => absurd a (by omega)⟩)
theorem gy_ord {post : Int32 → Prop} {fc ff fl m : Int32} {D : Nat → Int32} {cols : Nat} {G : gz_V → Prop} (hsm : gy_sm (m ||| 16) D) (hm : ∀ r, r < 5 → gz_bit m r → gz_bit (m ||| 16) r)
    (hc : 1 ≤ cols) (hc3 : cols ≤ 3) (hG : ∀ u, gz_G 5 (gz_bit m) (gy_row cols D) u ↔ G u) (hG2 : ∀ u, gz_G 5 (gz_bit (m ||| 16)) (gy_row cols D) u ↔ gz_pl G (gy_row cols D 4) u)
    (h0 : gz_Or G (gy_row cols D 4) 0 → post (-1000000)) (h1 : ∀ e : Int, 0 < e → e ≤ 2430000 → gz_Or G (gy_row cols D 4) e → post (gz_i e)) : wpY_orderOf post (fc, ff, fl, D) m (nI cols) := by
  have hsm2 : gy_sm m D := fun r hr hb => hsm r hr (hm r hr hb)
  unfold wpY_orderOf
  dsimp only
  refine gy_rank hsm2 hc hc3 ?_
  intro r hr
  rw [gz_Ge hG] at hr
  refine gy_rank hsm hc hc3 ?_
  intro t ht
  rw [gz_Ge hG2] at ht
  have r3 := hr.1
  have t3 := ht.1
  refine pk_le t r (fun hle => ?_) (fun hlt => h0 (gz_ordN hr ht hlt))
  refine gy_div hsm2 r3 hc hc3 ?_
  intro g g1 g2 g3
  rw [gz_Ge hG] at g3
  refine gy_div hsm r3 hc hc3 ?_
  intro k k1 k2 k3
  rw [gz_Ge hG2] at k3
  obtain ⟨o1, o2, o3⟩ := gz_ordT hr ht hle g3 k3
  have hb : (g.tdiv k).natAbs ≤ g.natAbs := by
    rw [gz_e2]
    exact Nat.div_le_self _ _
  refine ⟨fun e => ?_, ?_⟩
  · have := (gz_iE (b := 0)).1 e
    omega
  · rw [gz_iD (a := g) (b := k)]
    exact h1 _ o2 (by omega) o3
