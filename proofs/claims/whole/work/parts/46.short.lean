/-! Y: the least row, the steps and corners, the search; shortest and shortestPoints -/
theorem gy_no1 : (-1000000 : Int32) = gz_i (-1000000) := by rfl
section
variable {post : SY → Prop} {ff fl : Int32} {D : Nat → Int32} {n : Nat} {w : Nat → Int} {a p q b s c : Int}
theorem gy_143 {K : Int} (hw : gz_sw n w) (hD : gz_cw n w D) (hs : ∀ v, gz_Sp (gz_B a p q b s c) v ↔ gz_Sp (gz_R w (-1) n) v) (hH : gz_H a p q b s c) (hB : gz_Bd a p q b s c) (hK : K ≤ 243) (hK0 : 0 < K)
    (h : ∀ L t D', gz_cw n w D' → gz_Se K (gz_CY (gz_Sp (gz_B a p q b s c))) L t → post (nI n, nI t, gz_i L, D')) :
    wY_findShortest_143 post (gy_sv a) (gy_sv b) (gy_sv c) (gz_i p) (nI n) 0 (gz_i K) D := by
  obtain ⟨k1, k2, k3, k4, k5, k6⟩ := hB
  have hB : gz_Bd a p q b s c := ⟨k1, k2, k3, k4, k5, k6⟩
  have g1 := hH.2.1
  have g2 := hH.2.2.1
  have go : ∀ D', gz_cw n w D' → wY_findShortest_161 post (gy_sv a) (gy_sv b) (gy_sv c) (gz_i p) (gz_i q) (nI n) 0 (gz_i K) D' := by
    intro D1 hD1
    by_cases eb : b = 0
    · have es := hH.1.2 eb
      have g := gy_184 (post := post) (D := D1) (n := n) hH hB hK hK0 (fun L t hS => h L t D1 hD1 hS)
      rw [(gy_sv0 (e := 0) eb).1, es] at g
      rw [(gy_sv0 (e := 0) eb).1]
      exact br_t rfl g
    · have e1 := (gy_sv1 (e := 0) eb).1
      have hne : ¬ gy_sv b = -1000000 := by
        rw [e1]
        intro e2
        have := (gz_iE (a := b) (b := -1000000)).1 (e2.trans gy_no1)
        omega
      refine br_f hne (gy_co1 hw hD1 hs hH hB 2 (by decide) ?_)
      intro D2 hD2
      rw [(gy_sv1 eb).2]
      exact gy_184 hH hB hK hK0 (fun L t hS => h L t D2 hD2 hS)
  by_cases ea : a = 0
  · have eq := (hH.1.1 ea).2
    have g := go D hD
    rw [(gy_sv0 (e := 0) ea).1, eq] at g
    rw [(gy_sv0 (e := 0) ea).1]
    exact br_t rfl g
  · have e1 := (gy_sv1 (e := 0) ea).1
    have hne : ¬ gy_sv a = -1000000 := by
      rw [e1]
      intro e2
      have := (gz_iE (a := a) (b := -1000000)).1 (e2.trans gy_no1)
      omega
    refine br_f hne (gy_co0 hw hD hs hH hB 2 (by decide) ?_)
    intro D2 hD2
    rw [(gy_sv1 ea).2]
    exact go D2 hD2
theorem gy_20 {J8 : Int32 → Int32 → Prop} {x2' : Int32} (hw : gz_sw n w) (hD : gz_cw n w D) {r : Nat} (hr : r < n)
    (h0 : gz_sq (w (3 * r)) (w (3 * r + 1)) (w (3 * r + 2)) = 0 → J8 (nI (r + 1)) fl)
    (h1 : 0 < gz_sq (w (3 * r)) (w (3 * r + 1)) (w (3 * r + 2)) → gz_sq (w (3 * r)) (w (3 * r + 1)) (w (3 * r + 2)) ≤ 243 → J8 (nI (r + 1)) (gz_i (gz_sq (w (3 * r)) (w (3 * r + 1)) (w (3 * r + 2)))) ∧ (¬ fl = -1000000 → J8 (nI (r + 1)) fl)) :
    ∃ m, wY_findShortest_20 post J8 (nI r) (nI n) ff fl D m 0 0 := by
  have hn := hw.1
  obtain ⟨c0, v0⟩ := gy_c3 (j := 0) hw hD hr (by decide)
  obtain ⟨c1, v1⟩ := gy_c3 (j := 1) hw hD hr (by decide)
  obtain ⟨c2, v2⟩ := gy_c3 (j := 2) hw hD hr (by decide)
  have c0' : D (3 * nI r + 0).toNatClampNeg = gz_i (w (3 * r)) := c0
  have c1' : D (3 * nI r + 1).toNatClampNeg = gz_i (w (3 * r + 1)) := c1
  have c2' : D (3 * nI r + 2).toNatClampNeg = gz_i (w (3 * r + 2)) := c2
  have w0 := hw.2 (3 * r) (by omega)
  have w1 := hw.2 (3 * r + 1) (by omega)
  have w2 := hw.2 (3 * r + 2) (by omega)
  have m0 := gz_pm w0 w0
  have m1 := gz_pm w1 w1
  have m2 := gz_pm w2 w2
  have q0 := gz_sq0 (w (3 * r))
  have q1 := gz_sq0 (w (3 * r + 1))
  have q2 := gz_sq0 (w (3 * r + 2))
  have s0 : 0 + D (3 * nI r + 0).toNatClampNeg * D (3 * nI r + 0).toNatClampNeg = gz_i (w (3 * r) * w (3 * r)) := by
    rw [c0', gz_im, Int32.zero_add]
  have s1 : gz_i (w (3 * r) * w (3 * r)) + D (3 * nI r + 1).toNatClampNeg * D (3 * nI r + 1).toNatClampNeg = gz_i (w (3 * r) * w (3 * r) + w (3 * r + 1) * w (3 * r + 1)) := by
    rw [c1', gz_im, gz_ia]
  have s2 : gz_i (w (3 * r) * w (3 * r) + w (3 * r + 1) * w (3 * r + 1)) + D (3 * nI r + 2).toNatClampNeg * D (3 * nI r + 2).toNatClampNeg = gz_i (gz_sq (w (3 * r)) (w (3 * r + 1)) (w (3 * r + 2))) := by
    rw [c2', gz_im, gz_ia]
    rfl
  have qb : 0 ≤ gz_sq (w (3 * r)) (w (3 * r + 1)) (w (3 * r + 2)) ∧ gz_sq (w (3 * r)) (w (3 * r + 1)) (w (3 * r + 2)) ≤ 243 := by
    unfold gz_sq
    omega
  refine ⟨4, br_f (by decide) ⟨v0, v0, nm_r s0 (nm_r (show (0 : Int32) + 1 = 1 by decide) (br_f (by decide) ⟨v1, v1, nm_r s1 (nm_r (show (1 : Int32) + 1 = 2 by decide) (br_f (by decide) ⟨v2, v2, nm_r s2 (nm_r (show (2 : Int32) + 1 = 3 by decide) (br_t (by decide) ?_))⟩))⟩))⟩⟩
  generalize gz_sq (w (3 * r)) (w (3 * r + 1)) (w (3 * r + 2)) = g at *
  refine gz_bl g 0 (fun hle => nm_r (nI_1 r) (h0 (by omega))) (fun hpos => ?_)
  obtain ⟨k1, k2⟩ := h1 hpos qb.2
  refine br_c (fun _ => nm_r (nI_1 r) k1) (fun hne => br_c (fun _ => nm_r (nI_1 r) (k2 hne)) (fun _ => nm_r (nI_1 r) k1))
theorem gy_fs (hw : gz_sw n w) (hD : gz_cw n w D) (hs : ∀ v, gz_Sp (gz_B a p q b s c) v ↔ gz_Sp (gz_R w (-1) n) v) (hH : gz_H a p q b s c) (hB : gz_Bd a p q b s c)
    (h0 : (∀ r, r < n → gz_sq (w (3 * r)) (w (3 * r + 1)) (w (3 * r + 2)) = 0) → ∀ D', gz_cw n w D' → post (nI n, 0, -1000000, D'))
    (h1 : ∀ (r : Nat) (L : Int) (t : Nat) (D' : Nat → Int32), r < n → gz_cw n w D' → 0 < gz_sq (w (3 * r)) (w (3 * r + 1)) (w (3 * r + 2)) → gz_sq (w (3 * r)) (w (3 * r + 1)) (w (3 * r + 2)) ≤ 243 →
      gz_Se (gz_sq (w (3 * r)) (w (3 * r + 1)) (w (3 * r + 2))) (gz_CY (gz_Sp (gz_B a p q b s c))) L t → post (nI n, nI t, gz_i L, D')) :
    wpY_findShortest post (nI n, ff, fl, D) := by
  have hn := hw.1
  refine loop_0 (fun m r (g : Int32) => wY_findShortest_8 post (nI n) ff D m (nI r) g)
    (fun r g => (g = -1000000 ∧ ∀ r', r' < r → gz_sq (w (3 * r')) (w (3 * r' + 1)) (w (3 * r' + 2)) = 0) ∨
      ∃ r', r' < r ∧ g = gz_i (gz_sq (w (3 * r')) (w (3 * r' + 1)) (w (3 * r' + 2))) ∧ 0 < gz_sq (w (3 * r')) (w (3 * r' + 1)) (w (3 * r' + 2)) ∧ gz_sq (w (3 * r')) (w (3 * r' + 1)) (w (3 * r' + 2)) ≤ 243) n (-1000000)
    (Or.inl ⟨rfl, fun r hr => absurd hr (by omega)⟩) ?_ ?_
  · intro m g hg
    refine br_t (nI_le (Nat.le_refl n) (by omega)) ?_
    rcases hg with ⟨e, hz⟩ | ⟨r, hr, e, p1, p2⟩
    · subst e
      exact br_t rfl (h0 hz D hD)
    · subst e
      refine gz_be (gz_sq (w (3 * r)) (w (3 * r + 1)) (w (3 * r + 2))) (-1000000) (fun e2 => absurd e2 (by omega)) (fun _ => ?_)
      refine gy_s0 hw hD hs hH ?_
      intro D1 hD1
      refine gy_s1 hw hD1 hs hH ?_
      intro D2 hD2
      refine gy_s2s hw hD2 hs hH ?_
      intro D3 hD3
      have go : ∀ D', gz_cw n w D' → wY_findShortest_143 post (gy_sv a) (gy_sv b) (gy_sv c) (gz_i p) (nI n) 0 (gz_i (gz_sq (w (3 * r)) (w (3 * r + 1)) (w (3 * r + 2)))) D' := fun D' hD' =>
        gy_143 hw hD' hs hH hB p2 p1 (fun L t D4 hD4 hS => h1 r L t D4 hr hD4 p1 p2 hS)
      have g1 := hH.2.1
      have b1 := hB.1
      by_cases ea : a = 0
      · have g := go D3 hD3
        rw [(gy_sv0 (e := 0) ea).1, (hH.1.1 ea).1] at g
        rw [(gy_sv0 (e := 0) ea).1]
        exact br_t rfl g
      · have hne : ¬ gy_sv a = -1000000 := by
          rw [(gy_sv1 (e := 0) ea).1]
          intro e2
          have := (gz_iE (a := a) (b := -1000000)).1 (e2.trans gy_no1)
          omega
        refine br_f hne (gy_co0 hw hD3 hs hH hB 1 (by decide) ?_)
        intro D4 hD4
        rw [(gy_sv1 ea).2]
        exact go D4 hD4
  · intro m r g hr hg K
    refine br_f (nI_ge hr (by omega)) (gy_20 (x2' := 0) hw hD hr (fun e => K g ?_) (fun p1 p2 => ⟨K _ (Or.inr ⟨r, by omega, rfl, p1, p2⟩), fun hne => K g ?_⟩))
    · rcases hg with ⟨e1, hz⟩ | ⟨r1, hr1, e1, p1, p2⟩
      · refine Or.inl ⟨e1, fun r' hr' => ?_⟩
        by_cases e2 : r' = r
        · subst e2; exact e
        · exact hz r' (by omega)
      · exact Or.inr ⟨r1, by omega, e1, p1, p2⟩
    · rcases hg with ⟨e1, _⟩ | ⟨r1, hr1, e1, q1, q2⟩
      · exact absurd e1 hne
      · exact Or.inr ⟨r1, by omega, e1, q1, q2⟩
end
theorem gz_sqz {x y z : Int} (h : gz_sq x y z = 0) : x = 0 ∧ y = 0 ∧ z = 0 := by
  have h1 := gz_sq0 x
  have h2 := gz_sq0 y
  have h3 := gz_sq0 z
  unfold gz_sq at h
  refine ⟨?_, ?_, ?_⟩
  · have e : x * x = 0 := by omega
    rcases Int.mul_eq_zero.1 e with e | e <;> exact e
  · have e : y * y = 0 := by omega
    rcases Int.mul_eq_zero.1 e with e | e <;> exact e
  · have e : z * z = 0 := by omega
    rcases Int.mul_eq_zero.1 e with e | e <;> exact e
/-- rows that are all zero: no point is counted -/
theorem gz_CX0 {n : Nat} {w : Nat → Int} {T : gz_V → Prop} (hT : ∀ v, T v → gz_Sp (gz_R w (-1) n) v) (hz : ∀ r, r < n → gz_sq (w (3 * r)) (w (3 * r + 1)) (w (3 * r + 2)) = 0) {l : Int} (hl : 0 < l) : gz_CX T l = 0 := by
  have key : ∀ v, gz_Sp (gz_R w (-1) n) v → v = (0, 0, 0) := by
    intro v hv
    refine hv (fun v => v = (0, 0, 0)) rfl ?_
    intro u g t hu hg
    obtain ⟨r, hr, e⟩ := gy_Re hg
    subst e
    obtain ⟨z1, z2, z3⟩ := gz_sqz (hz r hr)
    rw [hu]
    apply gz_ext <;> simp [gz_ad, gz_ro, z1, z2, z3]
  refine gz_S0 (fun i _ => gz_S0 (fun j _ => gz_S0 (fun k _ => gz_ind0 (fun ⟨h1, h2⟩ => ?_))))
  have e := key _ (hT _ h1)
  have e1 : (i : Int) - 15 = 0 := congrArg (fun v : gz_V => v.1) e
  have e2 : (j : Int) - 15 = 0 := congrArg (fun v : gz_V => v.2.1) e
  have e3 : (k : Int) - 15 = 0 := congrArg (fun v : gz_V => v.2.2) e
  rw [e1, e2, e3] at h2
  have e4 : gz_sq 0 0 0 = 0 := by decide
  omega
theorem gz_sU {n r : Nat} {w : Nat → Int} {a p q b s c L R : Int} {t m : Nat} (hw : gz_sw n w) (hs : ∀ v, gz_Sp (gz_B a p q b s c) v ↔ gz_Sp (gz_R w (-1) n) v) (hr : r < n)
    (hX : gz_Se 243 (gz_CX (gz_Sp (gz_B a p q b s c))) L t) (p2 : gz_sq (w (3 * r)) (w (3 * r + 1)) (w (3 * r + 2)) ≤ 243)
    (hY : gz_Se (gz_sq (w (3 * r)) (w (3 * r + 1)) (w (3 * r + 2))) (gz_CY (gz_Sp (gz_B a p q b s c))) R m) : L = R ∧ t = m ∧ 1 ≤ t := by
  have w0 := hw.2 (3 * r) (by omega)
  have w1 := hw.2 (3 * r + 1) (by omega)
  have w2 := hw.2 (3 * r + 2) (by omega)
  refine gz_SeU hX hY p2 (fun l _ h => gz_tot h) ?_
  rw [← gz_tot p2]
  exact gz_ge1 (x := w (3 * r)) (y := w (3 * r + 1)) (z := w (3 * r + 2)) ((hs _).2 (gz_SpG (gy_Rm hw hr))) (by omega) (by omega) (by omega) rfl
theorem i_vc_shortest {k : Nat} {u : SX} {v : SY} (I : i_Rel k u v) (hk : k + 4 ≤ 2048) : wpX_shortest (fun r u' => wpY_shortest (fun r' v' => r' = r ∧ i_Rel (k + 4) u' v') v) u := by
  obtain ⟨rc, lsq, lsp, C, β, ρ⟩ := u
  obtain ⟨fc, ff, fl, D⟩ := v
  obtain ⟨n, w, hw, h1, hC, h2, hD⟩ := I
  dsimp only at h1 hC h2 hD
  subst h1 h2
  unfold wpX_shortest
  dsimp only
  refine gx_span hw hC ?_
  intro β' ρ' a p q b s c hb hs hH
  have hB := gz_bB hw hs hH
  refine gx_fs lsq lsp hb hH hB (fun L ρ2 hX => ?_) (fun L t ρ2 ht hX => ?_)
  · unfold wpY_shortest
    dsimp only
    refine gy_fs hw hD hs hH hB (fun hz D' hD' => ⟨rfl, gz_mk hw hC hD'⟩) (fun r R m D' hr hD' p1 p2 hY => ?_)
    have x := (gz_sU hw hs hr hX p2 hY).2.2
    exact absurd x (by decide)
  · unfold wpY_shortest
    dsimp only
    refine gy_fs hw hD hs hH hB (fun hz D' hD' => ?_) (fun r R m D' hr hD' p1 p2 hY => ?_)
    · refine absurd ?_ ht
      rw [hX.2.2.1]
      exact gz_CX0 (fun v hv => (hs v).1 hv) hz hX.1
    · obtain ⟨e1, e2, _⟩ := gz_sU hw hs hr hX p2 hY
      subst e1
      exact ⟨rfl, gz_mk hw hC hD'⟩
theorem i_vc_shortestPoints {k : Nat} {u : SX} {v : SY} (I : i_Rel k u v) (hk : k + 4 ≤ 2048) : wpX_shortestPoints (fun r u' => wpY_shortestPoints (fun r' v' => r' = r ∧ i_Rel (k + 4) u' v') v) u := by
  obtain ⟨rc, lsq, lsp, C, β, ρ⟩ := u
  obtain ⟨fc, ff, fl, D⟩ := v
  obtain ⟨n, w, hw, h1, hC, h2, hD⟩ := I
  dsimp only at h1 hC h2 hD
  subst h1 h2
  unfold wpX_shortestPoints
  dsimp only
  refine gx_span hw hC ?_
  intro β' ρ' a p q b s c hb hs hH
  have hB := gz_bB hw hs hH
  refine gx_fs lsq lsp hb hH hB (fun L ρ2 hX => ?_) (fun L t ρ2 ht hX => ?_)
  · unfold wpY_shortestPoints
    dsimp only
    refine gy_fs hw hD hs hH hB (fun hz D' hD' => br_t rfl ⟨rfl, gz_mk hw hC hD'⟩) (fun r R m D' hr hD' p1 p2 hY => ?_)
    have x := (gz_sU hw hs hr hX p2 hY).2.2
    exact absurd x (by decide)
  · unfold wpY_shortestPoints
    dsimp only
    refine gy_fs hw hD hs hH hB (fun hz D' hD' => ?_) (fun r R m D' hr hD' p1 p2 hY => ?_)
    · refine absurd ?_ ht
      rw [hX.2.2.1]
      exact gz_CX0 (fun v hv => (hs v).1 hv) hz hX.1
    · obtain ⟨e1, e2, _⟩ := gz_sU hw hs hr hX p2 hY
      subst e1 e2
      have l1 := hX.1
      have l2 := hX.2.1
      exact gz_be L (-1000000) (fun e => absurd e (by omega)) (fun _ => ⟨rfl, gz_mk hw hC hD'⟩)
