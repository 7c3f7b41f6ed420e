/-! rank, divisor, shape -/
section
variable {post : Int32 → Prop} {lsq lsp : Int32} {C : Nat → Int32} {β ρ : Nat → Int64} {n : Nat} {w : Nat → Int}
theorem gx_mi (hw : gz_sw n w) (hC : gz_cw n w C) (r s c d : Nat) (hr : r < n) (hs : s < n) (hc : c < 3) (hd : d < 3)
    (h : post (gz_i (w (3 * r + c) * w (3 * s + d) - w (3 * r + d) * w (3 * s + c)))) : wpX_pairMinor post (nI n, lsq, lsp, C, β, ρ) (nI r) (nI s) (nI c) (nI d) := by
  have hn := hw.1
  refine nm_r (gx_3c r) (nm_r (gx_3c s) ⟨gx_vi (by omega) (by omega), gx_vi (by omega) (by omega), gx_vi (by omega) (by omega), gx_vi (by omega) (by omega), ?_⟩)
  rw [gx_ad (a := 3 * r) (b := c) (by omega), gx_ad (a := 3 * s) (b := d) (by omega), gx_ad (a := 3 * r) (b := d) (by omega), gx_ad (a := 3 * s) (b := c) (by omega),
    hC (3 * r + c) (by omega), hC (3 * s + d) (by omega), hC (3 * r + d) (by omega), hC (3 * s + c) (by omega), gz_im, gz_im, gz_is]
  exact h
theorem gx_xy (hw : gz_sw n w) (hC : gz_cw n w C) {r s : Nat} (hr : r < n) (hs : s < n) (h : post (gz_i (gz_xy (gz_ro w r) (gz_ro w s)))) : wpX_pairMinor post (nI n, lsq, lsp, C, β, ρ) (nI r) (nI s) 0 1 :=
  gx_mi hw hC r s 0 1 hr hs (by decide) (by decide) h
theorem gx_xz (hw : gz_sw n w) (hC : gz_cw n w C) {r s : Nat} (hr : r < n) (hs : s < n) (h : post (gz_i (gz_xz (gz_ro w r) (gz_ro w s)))) : wpX_pairMinor post (nI n, lsq, lsp, C, β, ρ) (nI r) (nI s) 0 2 :=
  gx_mi hw hC r s 0 2 hr hs (by decide) (by decide) h
theorem gx_yz (hw : gz_sw n w) (hC : gz_cw n w C) {r s : Nat} (hr : r < n) (hs : s < n) (h : post (gz_i (gz_yz (gz_ro w r) (gz_ro w s)))) : wpX_pairMinor post (nI n, lsq, lsp, C, β, ρ) (nI r) (nI s) 1 2 :=
  gx_mi hw hC r s 1 2 hr hs (by decide) (by decide) h
theorem gx_dt (hw : gz_sw n w) (hC : gz_cw n w C) {r s t : Nat} (hr : r < n) (hs : s < n) (ht : t < n) (h : post (gz_i (gz_dt (gz_ro w r) (gz_ro w s) (gz_ro w t)))) :
    wpX_tripleMinor post (nI n, lsq, lsp, C, β, ρ) (nI r) (nI s) (nI t) := by
  have hn := hw.1
  refine nm_r (gx_3c r) (gx_yz hw hC hs ht (gx_xz hw hC hs ht (gx_xy hw hC hs ht ?_)))
  refine ⟨vp_in_nI (by omega) (by omega), gx_vi (b := 1) (by omega) (by omega), gx_vi (b := 2) (by omega) (by omega), ?_⟩
  have e0 : (nI (3 * r)).toNatClampNeg = 3 * r := gx_cl (by omega)
  have e1 : (nI (3 * r) + 1).toNatClampNeg = 3 * r + 1 := gx_ad (b := 1) (by omega)
  have e2 : (nI (3 * r) + 2).toNatClampNeg = 3 * r + 2 := gx_ad (b := 2) (by omega)
  rw [e0, e1, e2, hC (3 * r) (by omega), hC (3 * r + 1) (by omega), hC (3 * r + 2) (by omega), gz_im, gz_im, gz_im, gz_is, gz_ia]
  exact h
theorem gx_D1 (hw : gz_sw n w) (hC : gz_cw n w C) (h : ∀ g : Int, 0 ≤ g → g ≤ 4374 → gz_D 1 (gz_R w (-1) n) g → post (gz_i g)) : wpX_divisorOfNumbers post (nI n, lsq, lsp, C, β, ρ) := by
  have hn := hw.1
  refine loop_0 (fun m i (g : Int) => wX_divisorOfNumbers_4 post (nI n) lsq lsp C β ρ m (gz_i g) (nI i)) (fun i g => 0 ≤ g ∧ g.natAbs ≤ 9 ∧ ∀ d, d ∣ g ↔ ∀ j, j < i → d ∣ w j) (3 * n) 0
    ⟨by decide, by decide, fun d => ⟨fun _ j hj => absurd hj (by omega), fun _ => Int.dvd_zero d⟩⟩ ?_ ?_
  · intro m g ⟨h1, h2, h3⟩
    refine br_t (by rw [gx_3c]; exact nI_le (Nat.le_refl _) (by omega)) (h g h1 (by omega) ⟨h1, fun d => (h3 d).trans ?_⟩)
    refine Iff.trans ?_ (gz_M1o (N := n) (B := fun r => ¬ nI r = (-1 : Int32)) (row := gz_ro w)).symm
    constructor
    · intro x r hr _
      exact ⟨x _ (by omega), x _ (by omega), x _ (by omega)⟩
    · intro x j hj
      obtain ⟨y1, y2, y3⟩ := x (j / 3) (by omega) (gy_lo _ (by omega))
      have e : j = 3 * (j / 3) ∨ j = 3 * (j / 3) + 1 ∨ j = 3 * (j / 3) + 2 := by omega
      rcases e with e | e | e
      · rw [e]; exact y1
      · rw [e]; exact y2
      · rw [e]; exact y3
  · intro m i g hi ⟨h1, h2, h3⟩ K
    have wb := hw.2 i hi
    refine br_f (by rw [gx_3c]; exact nI_ge hi (by omega)) ⟨vp_in_nI (by omega) (by omega), ?_⟩
    rw [gx_cl (a := i) (by omega), hC i hi]
    refine gx_gcd (by omega) (by omega) (nm_r (nI_1 i) (K _ ⟨Int.natCast_nonneg _, by rw [gz_nng]; exact gz_gle h2 wb, fun d => ?_⟩))
    rw [Int.dvd_coe_gcd_iff, h3]
    constructor
    · intro ⟨x1, x2⟩ j hj
      by_cases e : j = i
      · subst e; exact x2
      · exact x1 j (by omega)
    · intro x
      exact ⟨fun j hj => x j (by omega), x i (by omega)⟩
theorem gz_sw2 (hw : gz_sw n w) {r s : Nat} (hr : r < n) (hs : s < n) : (gz_xy (gz_ro w r) (gz_ro w s)).natAbs ≤ 162 ∧ (gz_xz (gz_ro w r) (gz_ro w s)).natAbs ≤ 162 ∧ (gz_yz (gz_ro w r) (gz_ro w s)).natAbs ≤ 162 :=
  gz_sm2 (gz_Rs (lo := -1) hw (Nat.le_refl n)) (gy_Rm hw hr) (gy_Rm hw hs)
def gz_d2 (w : Nat → Int) (d : Int) (q r : Nat) : Prop := d ∣ gz_xy (gz_ro w q) (gz_ro w r) ∧ d ∣ gz_xz (gz_ro w q) (gz_ro w r) ∧ d ∣ gz_yz (gz_ro w q) (gz_ro w r)
theorem gz_d2s {d : Int} {q r : Nat} (h : gz_d2 w d q r) : gz_d2 w d r q :=
  ⟨gz_dng h.1 (by simp only [gz_xy]; grind), gz_dng h.2.1 (by simp only [gz_xz]; grind), gz_dng h.2.2 (by simp only [gz_yz]; grind)⟩
theorem gx_D2 (hw : gz_sw n w) (hC : gz_cw n w C) (h : ∀ g : Int, 0 ≤ g → g ≤ 4374 → gz_D 2 (gz_R w (-1) n) g → post (gz_i g)) : wpX_divisorOfPairs post (nI n, lsq, lsp, C, β, ρ) := by
  have hn := hw.1
  refine loop_0 (fun m q (g : Int) => wX_divisorOfPairs_4 post (nI n) lsq lsp C β ρ m (gz_i g) (nI q)) (fun q g => 0 ≤ g ∧ g.natAbs ≤ 162 ∧ ∀ d, d ∣ g ↔ ∀ q', q' < q → ∀ r, q' < r → r < n → gz_d2 w d q' r) n 0
    ⟨by decide, by decide, fun d => ⟨fun _ j hj => absurd hj (by omega), fun _ => Int.dvd_zero d⟩⟩ ?_ ?_
  · intro m g ⟨h1, h2, h3⟩
    refine br_t (nI_le (Nat.le_refl _) (by omega)) (h g h1 (by omega) ⟨h1, fun d => (h3 d).trans ?_⟩)
    refine Iff.trans ?_ (gz_M2o (N := n) (B := fun r => ¬ nI r = (-1 : Int32)) (row := gz_ro w)).symm
    exact ⟨fun x r hr _ s hs _ => gz_d2s (x s (by omega) r hs hr), fun x q hq r hqr hr => gz_d2s (x r hr (gy_lo _ (by omega)) q hqr (gy_lo _ (by omega)))⟩
  · intro m q g hq ⟨h1, h2, h3⟩ K
    refine br_f (nI_ge hq (by omega)) (nm_r (nI_1 q) ?_)
    refine pk_loop (fun m2 r (g : Int) => wX_divisorOfPairs_16 post (wX_divisorOfPairs_4 post (nI n) lsq lsp C β ρ m) (nI q) (nI n) lsq lsp C β ρ m2 (gz_i g) (nI r))
      (fun r g => q < r ∧ 0 ≤ g ∧ g.natAbs ≤ 162 ∧ ∀ d, d ∣ g ↔ (∀ q', q' < q → ∀ r, q' < r → r < n → gz_d2 w d q' r) ∧ ∀ r', q < r' → r' < r → gz_d2 w d q r') n (q + 1) g (by omega)
      ⟨by omega, h1, h2, fun d => (h3 d).trans ⟨fun x => ⟨x, fun r a b => absurd a (by omega)⟩, fun x => x.1⟩⟩ ?_ ?_
    · intro m2 g ⟨_, a1, a2, a3⟩
      refine br_t (nI_le (Nat.le_refl _) (by omega)) (nm_r (nI_1 q) (K g ⟨a1, a2, fun d => (a3 d).trans ?_⟩))
      constructor
      · intro ⟨x1, x2⟩ q' hq' r hr1 hr2
        by_cases e : q' = q
        · subst e; exact x2 r hr1 hr2
        · exact x1 q' (by omega) r hr1 hr2
      · intro x
        exact ⟨fun q' hq' => x q' (by omega), fun r a b => x q (by omega) r a b⟩
    · intro m2 r g hr ⟨hqr, a1, a2, a3⟩ K2
      · obtain ⟨b1, b2, b3⟩ := gz_sw2 hw hq hr
        have c1 := gz_gle a2 b1
        have c2 := gz_gle (g := (Int.gcd g (gz_xy (gz_ro w q) (gz_ro w r)) : Int)) (by rw [gz_nng]; exact c1) b2
        have c3 := gz_gle (g := (Int.gcd (Int.gcd g (gz_xy (gz_ro w q) (gz_ro w r)) : Int) (gz_xz (gz_ro w q) (gz_ro w r)) : Int)) (by rw [gz_nng]; exact c2) b3
        refine br_f (nI_ge hr (by omega)) (gx_xy hw hC hq hr (gx_xz hw hC hq hr (gx_yz hw hC hq hr ?_)))
        refine gx_gcd (by omega) (by omega) (gx_gcd (by rw [gz_nng]; omega) (by omega) (gx_gcd (by rw [gz_nng]; omega) (by omega) (nm_r (nI_1 r) (K2 _ ⟨by omega, Int.natCast_nonneg _, by rw [gz_nng]; exact c3, fun d => ?_⟩))))
        rw [Int.dvd_coe_gcd_iff, Int.dvd_coe_gcd_iff, Int.dvd_coe_gcd_iff, a3]
        constructor
        · intro ⟨⟨⟨⟨x1, x2⟩, x3⟩, x4⟩, x5⟩
          refine ⟨x1, fun r' y1 y2 => ?_⟩
          by_cases e : r' = r
          · subst e; exact ⟨x3, x4, x5⟩
          · exact x2 r' y1 (by omega)
        · intro ⟨x1, x2⟩
          obtain ⟨y1, y2, y3⟩ := x2 r hqr (by omega)
          exact ⟨⟨⟨⟨x1, fun r' z1 z2 => x2 r' z1 (by omega)⟩, y1⟩, y2⟩, y3⟩
theorem gx_D3 (hw : gz_sw n w) (hC : gz_cw n w C) (h : ∀ g : Int, 0 ≤ g → g ≤ 4374 → gz_D 3 (gz_R w (-1) n) g → post (gz_i g)) : wpX_divisorOfTriples post (nI n, lsq, lsp, C, β, ρ) := by
  have hn := hw.1
  have sm3 : ∀ p q r, p < n → q < n → r < n → (gz_dt (gz_ro w p) (gz_ro w q) (gz_ro w r)).natAbs ≤ 4374 := fun p q r hp hq hr =>
    gz_sm3 (gz_Rs (lo := -1) hw (Nat.le_refl n)) (gy_Rm hw hp) (gy_Rm hw hq) (gy_Rm hw hr)
  refine loop_0 (fun m p (g : Int) => wX_divisorOfTriples_4 post (nI n) lsq lsp C β ρ m (gz_i g) (nI p))
    (fun p g => 0 ≤ g ∧ g.natAbs ≤ 4374 ∧ ∀ d, d ∣ g ↔ ∀ p', p' < p → ∀ q, p' < q → q < n → ∀ r, q < r → r < n → d ∣ gz_dt (gz_ro w p') (gz_ro w q) (gz_ro w r)) n 0
    ⟨by decide, by decide, fun d => ⟨fun _ j hj => absurd hj (by omega), fun _ => Int.dvd_zero d⟩⟩ ?_ ?_
  · intro m g ⟨h1, h2, h3⟩
    refine br_t (nI_le (Nat.le_refl _) (by omega)) (h g h1 (by omega) ⟨h1, fun d => (h3 d).trans ?_⟩)
    refine Iff.trans ?_ (gz_M3o (N := n) (B := fun r => ¬ nI r = (-1 : Int32)) (row := gz_ro w)).symm
    exact ⟨fun x r hr _ s hs _ t ht _ => gz_dng (x t (by omega) s ht (by omega) r hs hr) (gz_dtA _ _ _).2.2.1,
      fun x p hp q hpq hq r hqr hr => gz_dng (x r hr (gy_lo _ (by omega)) q hqr (gy_lo _ (by omega)) p hpq (gy_lo _ (by omega))) (gz_dtA _ _ _).2.2.1⟩
  · intro m p g hp ⟨h1, h2, h3⟩ K
    refine br_f (nI_ge hp (by omega)) (nm_r (nI_1 p) ?_)
    refine pk_loop (fun m2 q (g : Int) => wX_divisorOfTriples_16 post (wX_divisorOfTriples_4 post (nI n) lsq lsp C β ρ m) (nI p) (nI n) lsq lsp C β ρ m2 (gz_i g) (nI q))
      (fun q g => p < q ∧ 0 ≤ g ∧ g.natAbs ≤ 4374 ∧ ∀ d, d ∣ g ↔ (∀ p', p' < p → ∀ q, p' < q → q < n → ∀ r, q < r → r < n → d ∣ gz_dt (gz_ro w p') (gz_ro w q) (gz_ro w r)) ∧
        ∀ q', p < q' → q' < q → ∀ r, q' < r → r < n → d ∣ gz_dt (gz_ro w p) (gz_ro w q') (gz_ro w r)) n (p + 1) g (by omega)
      ⟨by omega, h1, h2, fun d => (h3 d).trans ⟨fun x => ⟨x, fun r a b => absurd a (by omega)⟩, fun x => x.1⟩⟩ ?_ ?_
    · intro m2 g ⟨_, a1, a2, a3⟩
      refine br_t (nI_le (Nat.le_refl _) (by omega)) (nm_r (nI_1 p) (K g ⟨a1, a2, fun d => (a3 d).trans ?_⟩))
      constructor
      · intro ⟨x1, x2⟩ p' hp' q hq1 hq2
        by_cases e : p' = p
        · subst e; exact x2 q hq1 hq2
        · exact x1 p' (by omega) q hq1 hq2
      · intro x
        exact ⟨fun q' hq' => x q' (by omega), fun r a b => x p (by omega) r a b⟩
    · intro m2 q g hq ⟨hpq, a1, a2, a3⟩ K2
      refine br_f (nI_ge hq (by omega)) (nm_r (nI_1 q) ?_)
      refine pk_loop (fun m3 r (g : Int) => wX_divisorOfTriples_29 post (wX_divisorOfTriples_4 post (nI n) lsq lsp C β ρ m) (wX_divisorOfTriples_16 post (wX_divisorOfTriples_4 post (nI n) lsq lsp C β ρ m) (nI p) (nI n) lsq lsp C β ρ m2) (nI p) (nI q) (nI n) lsq lsp C β ρ m3 (gz_i g) (nI r))
        (fun r g' => q < r ∧ 0 ≤ g' ∧ g'.natAbs ≤ 4374 ∧ ∀ d, d ∣ g' ↔ d ∣ g ∧ ∀ r', q < r' → r' < r → d ∣ gz_dt (gz_ro w p) (gz_ro w q) (gz_ro w r')) n (q + 1) g (by omega)
        ⟨by omega, a1, a2, fun d => ⟨fun x => ⟨x, fun r a b => absurd a (by omega)⟩, fun x => x.1⟩⟩ ?_ ?_
      · intro m3 g' ⟨_, b1, b2, b3⟩
        refine br_t (nI_le (Nat.le_refl _) (by omega)) (nm_r (nI_1 q) (K2 g' ⟨by omega, b1, b2, fun d => ?_⟩))
        rw [b3, a3]
        constructor
        · intro ⟨⟨x1, x2⟩, x3⟩
          refine ⟨x1, fun q' y1 y2 r y3 y4 => ?_⟩
          by_cases e : q' = q
          · subst e; exact x3 r y3 y4
          · exact x2 q' y1 (by omega) r y3 y4
        · intro ⟨x1, x2⟩
          exact ⟨⟨x1, fun q' y1 y2 => x2 q' y1 (by omega)⟩, fun r y1 y2 => x2 q hpq (by omega) r y1 y2⟩
      · intro m3 r g' hr ⟨hqr, b1, b2, b3⟩ K3
        have c := sm3 p q r hp hq hr
        refine br_f (nI_ge hr (by omega)) (gx_dt hw hC hp hq hr (gx_gcd (by omega) (by omega) (nm_r (nI_1 r) (K3 _ ⟨by omega, Int.natCast_nonneg _, by rw [gz_nng]; exact gz_gle b2 c, fun d => ?_⟩))))
        rw [Int.dvd_coe_gcd_iff, b3]
        constructor
        · intro ⟨⟨x1, x2⟩, x3⟩
          refine ⟨x1, fun r' y1 y2 => ?_⟩
          by_cases e : r' = r
          · subst e; exact x3
          · exact x2 r' y1 (by omega)
        · intro ⟨x1, x2⟩
          exact ⟨⟨x1, fun r' y1 y2 => x2 r' y1 (by omega)⟩, x2 r hqr (by omega)⟩
theorem gx_dv {k : Nat} (hw : gz_sw n w) (hC : gz_cw n w C) (hk : k ≤ 3) (h : ∀ g : Int, 0 ≤ g → g ≤ 4374 → gz_D k (gz_R w (-1) n) g → post (gz_i g)) : wpX_divisor post (nI n, lsq, lsp, C, β, ρ) (nI k) := by
  have h4 : k = 0 ∨ k = 1 ∨ k = 2 ∨ k = 3 := by omega
  rcases h4 with rfl | rfl | rfl | rfl
  · exact br_f (by decide) (br_f (by decide) (br_t rfl (h 1 (by decide) (by decide) (gz_Dk0 _))))
  · exact br_f (by decide) (br_f (by decide) (br_f (by decide) (br_t rfl (gx_D1 hw hC h))))
  · exact br_f (by decide) (br_f (by decide) (br_f (by decide) (br_f (by decide) (br_t rfl (gx_D2 hw hC h)))))
  · exact br_f (by decide) (br_f (by decide) (br_f (by decide) (br_f (by decide) (br_f (by decide) (br_t rfl (gx_D3 hw hC h))))))
theorem gz_pr3 (G : gz_V → Prop) : gz_pr 3 G = G :=
  gz_Ge (fun u => ⟨fun ⟨v, hv, e⟩ => by rw [e, gz_pj3]; exact hv, fun h => ⟨u, h, (gz_pj3 u).symm⟩⟩)
theorem gy_smA {D : Nat → Int32} (hw : gz_sw n w) (hD : gz_cw n w D) : gy_sm (gy_mk n) D := by
  have hn := hw.1
  intro r hr hb
  obtain ⟨k1, _⟩ := (gy_bA hn r hr).1 hb
  rw [gy_ro hw hD k1]
  have a1 := hw.2 (3 * r) (by omega)
  have a2 := hw.2 (3 * r + 1) (by omega)
  have a3 := hw.2 (3 * r + 2) (by omega)
  exact ⟨Nat.le_trans a1 (by decide), Nat.le_trans a2 (by decide), Nat.le_trans a3 (by decide), fun _ => ⟨a1, a2, a3⟩⟩
theorem gy_G3 {D : Nat → Int32} (hw : gz_sw n w) (hD : gz_cw n w D) : gz_G 5 (gz_bit (gy_mk n)) (gy_row 3 D) = gz_R w (-1) n := by
  rw [← gz_pr3 (gz_R w (-1) n)]
  exact gz_Ge (gy_st1 hw hD (gy_bA hw.1))
theorem gy_dv {ff fl : Int32} {D : Nat → Int32} {k : Nat} (hw : gz_sw n w) (hD : gz_cw n w D) (hk : k ≤ 3) (h : ∀ g : Int, 0 ≤ g → g ≤ 2430000 → gz_D k (gz_R w (-1) n) g → post (gz_i g)) : wpY_divisor post (nI n, ff, fl, D) (nI k) := by
  unfold wpY_divisor
  dsimp only
  refine gy_all (br_f (nI_pos (by omega)) (br_t (nI_le (b := 3) hk (by decide)) (gy_div (cols := 3) (gy_smA hw hD) hk (by decide) (by decide) ?_)))
  rw [gy_G3 hw hD]
  exact h
theorem gy_rk {ff fl : Int32} {D : Nat → Int32} (hw : gz_sw n w) (hD : gz_cw n w D) (h : ∀ r : Nat, gz_Rk (gz_R w (-1) n) r → post (nI r)) : wpY_rank post (nI n, ff, fl, D) := by
  unfold wpY_rank
  dsimp only
  refine gy_all (gy_rank (cols := 3) (gy_smA hw hD) (by decide) (by decide) ?_)
  rw [gy_G3 hw hD]
  exact h
end
theorem gz_Mup {G : gz_V → Prop} {k r : Nat} (hr : r ≤ 3) (hk : k ≤ r) (h : gz_M k G (fun x => (0 : Int) ∣ x)) : gz_M r G (fun x => (0 : Int) ∣ x) := by
  have key : ∀ j, k + j ≤ 3 → gz_M (k + j) G (fun x => (0 : Int) ∣ x) := by
    intro j
    induction j with
    | zero => exact fun _ => h
    | succ j ih => exact fun hj => gz_Mz (ih (by omega))
  have e : r = k + (r - k) := by omega
  rw [e]
  exact key _ (by omega)
theorem gz_k4 (x : Int32) : (∃ k, k ≤ 3 ∧ x = nI k) ∨ (x < 0 ∨ (¬ x < 0 ∧ nI 4 ≤ x)) := by
  rcases gz_rn x (n := 4) (by omega) with ⟨k, hk, e⟩ | h
  · exact Or.inl ⟨k, by omega, e⟩
  · exact Or.inr h
theorem gz_gt {x : Int32} {a b : Nat} (h : nI a ≤ x) (hab : b < a) (ha : a < 2147483648) : nI b < x ∧ ¬ x ≤ nI b ∧ ¬ x < nI a := by
  rw [Int32.le_iff_toInt_le, nI_toInt (by omega)] at h
  rw [Int32.lt_iff_toInt_lt, Int32.le_iff_toInt_le, Int32.lt_iff_toInt_lt, nI_toInt (by omega), nI_toInt (by omega)]
  omega
theorem i_vc_divisor {k : Nat} {u : SX} {v : SY} (I : i_Rel k u v) (hk : k + 4 ≤ 2048) (v1 : Int32) : wpX_divisor (fun r => wpY_divisor (fun r' => r' = r ∧ i_Rel (k + 4) u v) v v1) u v1 := by
  have J : i_Rel (k + 4) u v := I
  obtain ⟨rc, lsq, lsp, C, β, ρ⟩ := u
  obtain ⟨fc, ff, fl, D⟩ := v
  obtain ⟨n, w, hw, h1, hC, h2, hD⟩ := I
  dsimp only at h1 hC h2 hD
  subst h1 h2
  rcases gz_k4 v1 with ⟨j, hj, rfl⟩ | h | ⟨h1, h2⟩
  · refine gx_dv hw hC hj ?_
    intro g g1 g2 g3
    refine gy_dv hw hD hj ?_
    intro g' a1 a2 a3
    exact ⟨gz_iq (gz_Du a3 g3), J⟩
  · exact br_t h (br_t h ⟨rfl, J⟩)
  · have x := gz_gt (b := 3) h2 (by decide) (by decide)
    exact br_f h1 (br_t x.1 (br_f h1 (br_f x.2.1 ⟨rfl, J⟩)))
theorem i_vc_shape {k : Nat} {u : SX} {v : SY} (I : i_Rel k u v) (hk : k + 4 ≤ 2048) (v1 : Int32) : wpX_shape (fun r => wpY_shape (fun r' => r' = r ∧ i_Rel (k + 4) u v) v v1) u v1 := by
  have J : i_Rel (k + 4) u v := I
  obtain ⟨rc, lsq, lsp, C, β, ρ⟩ := u
  obtain ⟨fc, ff, fl, D⟩ := v
  obtain ⟨n, w, hw, h1, hC, h2, hD⟩ := I
  dsimp only at h1 hC h2 hD
  subst h1 h2
  rcases gz_k4 v1 with ⟨j, hj, rfl⟩ | h | ⟨h1, h2⟩
  · by_cases j0 : j = 0
    · subst j0
      exact br_t (by decide) (br_t (by decide) ⟨rfl, J⟩)
    · have n1 : ¬ nI j < 1 := nI_nlt (b := 1) (by omega) (by omega)
      have ep : nI j - 1 = nI (j - 1) := pk_sub (b := 1) (by omega)
      refine br_f n1 (br_t (nI_le (b := 3) hj (by decide)) ?_)
      refine gx_dv hw hC hj ?_
      intro g g1 g2 g3
      rw [ep]
      refine gx_dv hw hC (by omega) ?_
      intro f f1 f2 f3
      have up : ∀ r, gz_Rk (gz_R w (-1) n) r → (j ≤ r ↔ g ≠ 0) ∧ (j ≤ r → f ≠ 0) := by
        intro r hr
        have hf : j ≤ r → f ≠ 0 := fun hjr e => hr.2.1 (gz_Mup hr.1 (by omega) ((gz_D0 f3).1 e))
        refine ⟨⟨fun hjr e => hr.2.1 (gz_Mup hr.1 hjr ((gz_D0 g3).1 e)), fun hne => ?_⟩, hf⟩
        by_cases hjr : j ≤ r
        · exact hjr
        · exact absurd ((gz_D0 g3).2 (hr.2.2 j (by omega) hj)) hne
      have noneY : g = 0 ∨ f = 0 → wpY_shape (fun r' => r' = -1000000 ∧ i_Rel (k + 4) (nI n, lsq, lsp, C, β, ρ) (nI n, ff, fl, D)) (nI n, ff, fl, D) (nI j) := by
        intro hz
        refine br_f n1 (gy_rk hw hD ?_)
        intro r hr
        have hr3 := hr.1
        obtain ⟨u1, u2⟩ := up r hr
        refine pk_le j r (fun hle => ?_) (fun _ => ⟨rfl, J⟩)
        rcases hz with hz | hz
        · exact absurd hz (u1.1 hle)
        · exact absurd hz (u2 hle)
      refine gz_be g 0 (fun e => noneY (Or.inl e)) (fun ge => gz_be f 0 (fun e => noneY (Or.inr e)) (fun fe => ?_))
      have fne : ¬ gz_i f = 0 := fun e => fe ((gz_iE (b := 0)).1 e)
      refine ⟨fne, br_f n1 (gy_rk hw hD ?_)⟩
      intro r hr
      have hr3 := hr.1
      obtain ⟨u1, u2⟩ := up r hr
      refine pk_le j r (fun hle => ?_) (fun hlt => absurd (u1.2 ge) (by omega))
      refine gy_dv hw hD hj ?_
      intro g' a1 a2 a3
      rw [ep]
      refine gy_dv hw hD (by omega) ?_
      intro f' b1 b2 b3
      have e1 := gz_Du a3 g3
      have e2 := gz_Du b3 f3
      subst e1 e2
      exact ⟨fne, rfl, J⟩
  · have x1 : v1 < 1 := by
      have e0 : (0 : Int32).toInt = 0 := by decide
      have e1 : (1 : Int32).toInt = 1 := by decide
      rw [Int32.lt_iff_toInt_lt, e0] at h
      rw [Int32.lt_iff_toInt_lt, e1]
      omega
    exact br_t x1 (br_t x1 ⟨rfl, J⟩)
  · have x := gz_gt (b := 3) h2 (by decide) (by decide)
    have x1 : ¬ v1 < 1 := by
      intro h
      have e1 : (1 : Int32).toInt = 1 := by decide
      have e4 : (nI 4).toInt = 4 := by decide
      rw [Int32.lt_iff_toInt_lt, e1] at h
      rw [Int32.le_iff_toInt_le, e4] at h2
      omega
    refine br_f x1 (br_f x.2.1 (br_f x1 (gy_rk hw hD ?_)))
    intro r hr
    have hr3 := hr.1
    exact br_f (gz_gt (b := r) h2 (by omega) (by decide)).2.1 ⟨rfl, J⟩
