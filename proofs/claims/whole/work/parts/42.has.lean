/-! rank, has, order, step, corner, spare -/
theorem gz_bB {n : Nat} {w : Nat → Int} {lo : Int32} {a p q b s c : Int} (hw : gz_sw n w) (hs : ∀ v, gz_Sp (gz_B a p q b s c) v ↔ gz_Sp (gz_R w lo n) v) (hH : gz_H a p q b s c) : gz_Bd a p q b s c :=
  gz_bd (gz_Rs hw (Nat.le_refl n)) hs hH
theorem gx_dgs {β : Nat → Int64} {a p q b s c : Int} (hb : gz_bs β a p q b s c) {i : Nat} (hi : i < 3) : β (3 * i + i) = gz_l (gy_dg a b c i) := by
  have h3 : i = 0 ∨ i = 1 ∨ i = 2 := by omega
  rcases h3 with rfl | rfl | rfl
  · exact hb.1
  · exact hb.2.2.2.2.1
  · exact hb.2.2.2.2.2.2.2.2
theorem gx_ens {β : Nat → Int64} {a p q b s c : Int} (hb : gz_bs β a p q b s c) {i j : Nat} (hi : i < 3) (hj : j < 3) : β (3 * i + j) = gz_l (gy_en a p q b s c i j) := by
  obtain ⟨b0, b1, b2, b3, b4, b5, b6, b7, b8⟩ := hb
  have h3 : i = 0 ∨ i = 1 ∨ i = 2 := by omega
  have k3 : j = 0 ∨ j = 1 ∨ j = 2 := by omega
  rcases h3 with rfl | rfl | rfl <;> rcases k3 with rfl | rfl | rfl
  · exact b0
  · exact b1
  · exact b2
  · exact b3
  · exact b4
  · exact b5
  · exact b6
  · exact b7
  · exact b8
theorem gx_dgb {a p q b s c : Int} (hH : gz_H a p q b s c) (hB : gz_Bd a p q b s c) (i : Nat) : 0 ≤ gy_dg a b c i ∧ gy_dg a b c i ≤ 4374 := by
  obtain ⟨_, g1, g2, g3, _, _⟩ := hH
  obtain ⟨k1, k2, k3, _⟩ := hB
  unfold gy_dg
  split
  · exact ⟨g1, by omega⟩
  · exact ⟨g2, by omega⟩
  · exact ⟨g3, k3⟩
theorem gx_enb {a p q b s c : Int} (hH : gz_H a p q b s c) (hB : gz_Bd a p q b s c) (i j : Nat) : (gy_en a p q b s c i j).natAbs ≤ 26406 := by
  obtain ⟨_, g1, g2, g3, _, _⟩ := hH
  obtain ⟨k1, k2, k3, k4, k5, k6⟩ := hB
  unfold gy_en
  split <;> omega
theorem i_vc_rank {k : Nat} {u : SX} {v : SY} (I : i_Rel k u v) (hk : k + 4 ≤ 2048) : wpX_rank (fun r u' => wpY_rank (fun r' => r' = r ∧ i_Rel (k + 4) u' v) v) u := by
  obtain ⟨rc, lsq, lsp, C, β, ρ⟩ := u
  obtain ⟨fc, ff, fl, D⟩ := v
  obtain ⟨n, w, hw, h1, hC, h2, hD⟩ := I
  dsimp only at h1 hC h2 hD
  subst h1 h2
  unfold wpX_rank
  dsimp only
  refine gx_span hw hC ?_
  intro β' ρ' a p q b s c hb hs hH
  have hB := gz_bB hw hs hH
  refine loop_0 (fun m i (t : Nat) => wX_rank_9 (fun r u' => wpY_rank (fun r' => r' = r ∧ i_Rel (k + 4) u' (nI n, ff, fl, D)) (nI n, ff, fl, D)) (nI n) lsq lsp C β' ρ' m (nI t) (nI i))
    (fun i t => t = gz_S i (fun j => gz_nz (gy_dg a b c j))) 3 0 rfl ?_ ?_
  · intro m t ht
    refine br_t (by decide) (gy_rk hw hD ?_)
    intro r hr
    have e := gz_Rku hr (gz_RkE hs (gz_RkB (c := c) hH.1))
    refine ⟨?_, gz_mk hw hC hD⟩
    have e2 : gz_S 3 (fun j => gz_nz (gy_dg a b c j)) = 0 + gz_nz a + gz_nz b + gz_nz c := rfl
    have e3 : r = t := by omega
    rw [e3]
  · intro m i t hi ht K
    have db := gx_dgb hH hB i
    refine br_f (nI_ge (b := 3) hi (by decide)) (gx_sa hi ?_)
    rw [gx_dgs hb hi]
    refine gz_Le (gy_dg a b c i) 0 (fun e => ?_) (fun e => ?_)
    · refine nm_r (nI_1 i) (K t ?_)
      show t = gz_S i (fun j => gz_nz (gy_dg a b c j)) + gz_nz (gy_dg a b c i)
      have e1 : gz_nz (gy_dg a b c i) = 0 := if_pos e
      omega
    · refine nm_r (nI_1 t) (nm_r (nI_1 i) (K (t + 1) ?_))
      show t + 1 = gz_S i (fun j => gz_nz (gy_dg a b c j)) + gz_nz (gy_dg a b c i)
      have e1 : gz_nz (gy_dg a b c i) = 1 := if_neg e
      omega
theorem gz_hm {G : gz_V → Prop} {a p q b s c x y z : Int} (hs : ∀ v, gz_Sp (gz_B a p q b s c) v ↔ gz_Sp G v) : gz_Sp (gz_pr 3 G) (gz_pj 3 (x, y, z)) ↔ gz_Sp (gz_B a p q b s c) (x, y, z) := by
  rw [gz_pr3, gz_pj3]
  exact (hs _).symm
theorem i_vc_has {k : Nat} {u : SX} {v : SY} (I : i_Rel k u v) (hk : k + 4 ≤ 2048) (v1 : Int32) (v2 : Int32) (v3 : Int32) : wpX_has (fun r u' => wpY_has (fun r' v' => r' = r ∧ i_Rel (k + 4) u' v') v v1 v2 v3) u v1 v2 v3 := by
  obtain ⟨rc, lsq, lsp, C, β, ρ⟩ := u
  obtain ⟨fc, ff, fl, D⟩ := v
  obtain ⟨n, w, hw, h1, hC, h2, hD⟩ := I
  dsimp only at h1 hC h2 hD
  subst h1 h2
  obtain ⟨x, rfl, hx⟩ := gz_iXe v1
  obtain ⟨y, rfl, hy⟩ := gz_iXe v2
  obtain ⟨z, rfl, hz⟩ := gz_iXe v3
  unfold wpX_has
  dsimp only
  refine gx_aw (N := 5000) hx hy hz (by decide) (fun a1 a2 a3 => br_f (by decide) ?_) (fun hno => br_t rfl ?_)
  · refine gx_span hw hC ?_
    intro β' ρ' a p q b s c hb hs hH
    have hB := gz_bB hw hs hH
    refine gx_con hb hH hB a1 a2 a3 (fun hm ρ2 => ⟨rfl, ?_⟩) (fun hm ρ2 => ⟨rfl, ?_⟩)
    · unfold wpY_has
      dsimp only
      refine gy_aw (N := 5000) hx hy hz (by decide) (fun _ _ _ => br_f (by decide) ?_) (fun hno => absurd ⟨a1, a2, a3⟩ hno)
      exact gy_has (cols := 3) hw hD a1 a2 a3 (by decide) (by decide) (fun _ D' hD' => br_f (by decide) ⟨rfl, gz_mk hw hC hD'⟩) (fun hn => absurd ((gz_hm hs).2 hm) hn)
    · unfold wpY_has
      dsimp only
      refine gy_aw (N := 5000) hx hy hz (by decide) (fun _ _ _ => br_f (by decide) ?_) (fun hno => absurd ⟨a1, a2, a3⟩ hno)
      exact gy_has (cols := 3) hw hD a1 a2 a3 (by decide) (by decide) (fun hn => absurd ((gz_hm hs).1 hn) hm) (fun _ D' hD' => br_t rfl ⟨rfl, gz_mk hw hC hD'⟩)
  · unfold wpY_has
    dsimp only
    exact gy_aw (N := 5000) hx hy hz (by decide) (fun a1 a2 a3 => absurd ⟨a1, a2, a3⟩ hno) (fun _ => br_t rfl ⟨rfl, gz_mk hw hC hD⟩)
theorem i_vc_order {k : Nat} {u : SX} {v : SY} (I : i_Rel k u v) (hk : k + 4 ≤ 2048) (v1 : Int32) (v2 : Int32) (v3 : Int32) : wpX_order (fun r u' => wpY_order (fun r' v' => r' = r ∧ i_Rel (k + 4) u' v') v v1 v2 v3) u v1 v2 v3 := by
  obtain ⟨rc, lsq, lsp, C, β, ρ⟩ := u
  obtain ⟨fc, ff, fl, D⟩ := v
  obtain ⟨n, w, hw, h1, hC, h2, hD⟩ := I
  dsimp only at h1 hC h2 hD
  subst h1 h2
  have hn := hw.1
  obtain ⟨x, rfl, hx⟩ := gz_iXe v1
  obtain ⟨y, rfl, hy⟩ := gz_iXe v2
  obtain ⟨z, rfl, hz⟩ := gz_iXe v3
  unfold wpX_order
  dsimp only
  refine gx_aw (N := 100) hx hy hz (by decide) (fun a1 a2 a3 => br_f (by decide) ?_) (fun hno => br_t rfl ?_)
  · have a1' : x.natAbs ≤ 100 := a1
    have a2' : y.natAbs ≤ 100 := a2
    have a3' : z.natAbs ≤ 100 := a3
    refine gx_span hw hC ?_
    intro β' ρ' a p q b s c hb hs hH
    have hB := gz_bB hw hs hH
    have goY : ∀ (d : Int) (ρ2 : Nat → Int64), gz_Or (gz_R w (-1) n) (x, y, z) d → wpY_order (fun r' v' => r' = gy_sv d ∧ i_Rel (k + 4) (nI n, lsq, lsp, C, β', ρ2) v') (nI n, ff, fl, D) (gz_i x) (gz_i y) (gz_i z) := by
      intro d ρ2 hd
      unfold wpY_order
      dsimp only
      refine gy_aw (N := 100) hx hy hz (by decide) (fun _ _ _ => br_f (by decide) ?_) (fun hno => absurd ⟨a1, a2, a3⟩ hno)
      refine gy_put hw hD (by omega) (by omega) (by omega) ?_
      intro D' hD' h4
      have o := gy_ordv (post := fun r => r = gy_sv d ∧ i_Rel (k + 4) (nI n, lsq, lsp, C, β', ρ2) (nI n, ff, fl, D')) hd ⟨rfl, gz_mk hw hC hD'⟩
      refine gy_all ?_
      refine gy_ordW (post := fun r => r = gy_sv d ∧ i_Rel (k + 4) (nI n, lsq, lsp, C, β', ρ2) (nI n, ff, fl, D')) (m := gy_mk n) (lo := -1) (cols := 3) hw hD' h4 (by omega) (by omega) (by omega) (gy_bA hn) (gy_bB hn) (by decide) (by decide) ?_ ?_
      · rw [gz_pr3, gz_pj3]
        exact o.1
      · rw [gz_pr3, gz_pj3]
        exact o.2
    refine gx_lm hb hH hB hs a1' a2' a3' (fun o ρ2 => ?_) (fun m m1 m2 o ρ2 => ?_)
    · exact goY 0 ρ2 o
    · have g := goY m ρ2 o
      have e : gy_sv m = gz_i m := if_neg (by omega)
      rw [e] at g
      exact g
  · unfold wpY_order
    dsimp only
    exact gy_aw (N := 100) hx hy hz (by decide) (fun a1 a2 a3 => absurd ⟨a1, a2, a3⟩ hno) (fun _ => br_t rfl ⟨rfl, gz_mk hw hC hD⟩)
theorem i_vc_step {k : Nat} {u : SX} {v : SY} (I : i_Rel k u v) (hk : k + 4 ≤ 2048) (v1 : Int32) : wpX_step (fun r u' => wpY_step (fun r' v' => r' = r ∧ i_Rel (k + 4) u' v') v v1) u v1 := by
  obtain ⟨rc, lsq, lsp, C, β, ρ⟩ := u
  obtain ⟨fc, ff, fl, D⟩ := v
  obtain ⟨n, w, hw, h1, hC, h2, hD⟩ := I
  dsimp only at h1 hC h2 hD
  subst h1 h2
  unfold wpX_step
  dsimp only
  rcases gz_rn v1 (n := 3) (by omega) with ⟨j, hj, rfl⟩ | hj
  · refine gx_col1 hj (br_f (by decide) (gx_span hw hC ?_))
    intro β' ρ' a p q b s c hb hs hH
    have hB := gz_bB hw hs hH
    have db := gx_dgb hH hB j
    have goY : wpY_step (fun r' v' => r' = gy_sv (gy_dg a b c j) ∧ i_Rel (k + 4) (nI n, lsq, lsp, C, β', ρ') v') (nI n, ff, fl, D) (nI j) := by
      have h3 : j = 0 ∨ j = 1 ∨ j = 2 := by omega
      rcases h3 with rfl | rfl | rfl
      · exact gy_s0 hw hD hs hH (fun D' hD' => ⟨rfl, gz_mk hw hC hD'⟩)
      · exact gy_s1 hw hD hs hH (fun D' hD' => ⟨rfl, gz_mk hw hC hD'⟩)
      · exact gy_s2s hw hD hs hH (fun D' hD' => ⟨rfl, gz_mk hw hC hD'⟩)
    refine gx_sa hj ?_
    dsimp only
    rw [gx_dgs hb hj]
    refine gz_Le (gy_dg a b c j) 0 (fun e => ?_) (fun e => ?_)
    · have e1 : gy_sv (gy_dg a b c j) = -1000000 := if_pos e
      rw [e1] at goY
      exact goY
    · have e1 : gy_sv (gy_dg a b c j) = gz_i (gy_dg a b c j) := if_neg e
      rw [e1] at goY
      refine gx_sa hj ?_
      rw [gx_dgs hb hj, gz_li]
      exact goY
  · exact gx_col0 hj (br_t rfl (gy_col2 hj ⟨rfl, gz_mk hw hC hD⟩))
theorem i_vc_corner {k : Nat} {u : SX} {v : SY} (I : i_Rel k u v) (hk : k + 4 ≤ 2048) (v1 : Int32) (v2 : Int32) : wpX_corner (fun r u' => wpY_corner (fun r' v' => r' = r ∧ i_Rel (k + 4) u' v') v v1 v2) u v1 v2 := by
  obtain ⟨rc, lsq, lsp, C, β, ρ⟩ := u
  obtain ⟨fc, ff, fl, D⟩ := v
  obtain ⟨n, w, hw, h1, hC, h2, hD⟩ := I
  dsimp only at h1 hC h2 hD
  subst h1 h2
  unfold wpX_corner
  dsimp only
  rcases gz_rn v1 (n := 3) (by omega) with ⟨i, hi, rfl⟩ | hi
  · refine gx_col1 hi (br_f (by decide) ?_)
    rcases gz_rn v2 (n := 3) (by omega) with ⟨j, hj, rfl⟩ | hj
    · refine gx_col1 hj (br_f (by decide) (gx_span hw hC ?_))
      intro β' ρ' a p q b s c hb hs hH
      have hB := gz_bB hw hs hH
      have db := gx_dgb hH hB i
      have goY : wpY_corner (fun r' v' => r' = gy_cv (gy_dg a b c i) (gy_en a p q b s c i j) ∧ i_Rel (k + 4) (nI n, lsq, lsp, C, β', ρ') v') (nI n, ff, fl, D) (nI i) (nI j) := by
        have h3 : i = 0 ∨ i = 1 ∨ i = 2 := by omega
        rcases h3 with rfl | rfl | rfl
        · exact gy_co0 hw hD hs hH hB j hj (fun D' hD' => ⟨rfl, gz_mk hw hC hD'⟩)
        · exact gy_co1 hw hD hs hH hB j hj (fun D' hD' => ⟨rfl, gz_mk hw hC hD'⟩)
        · exact gy_co2 hw hD hs hH hB j hj (fun D' hD' => ⟨rfl, gz_mk hw hC hD'⟩)
      refine gx_sa hi ?_
      dsimp only
      rw [gx_dgs hb hi]
      refine gz_Le (gy_dg a b c i) 0 (fun e => ?_) (fun e => ?_)
      · rw [(gy_sv0 e).2] at goY
        exact goY
      · rw [(gy_sv1 e).2] at goY
        refine ⟨gx_vi3 (by omega) (by omega), ?_⟩
        rw [gx_ad3 (a := i) (b := j) (by omega), gx_ens hb hi hj, gz_li]
        exact goY
    · exact gx_col0 hj (br_t rfl (gy_col1 hi (gy_col2 hj ⟨rfl, gz_mk hw hC hD⟩)))
  · exact gx_col0 hi (br_t rfl (gy_col0 hi ⟨rfl, gz_mk hw hC hD⟩))
theorem gy_bC {n r0 : Nat} (hn : n ≤ 4) (h0 : r0 < n) (r : Nat) (hr : r < 5) : gz_bit (gy_mk n &&& (((1 : Int32) <<< (nI r0 &&& 31)) ^^^ (-1))) r ↔ r < n ∧ ¬ nI r = nI r0 :=
  (gy_b3 n (by omega) r0 (by omega) r hr).trans (by rw [nI_eq (a := r) (b := r0) (by omega) (by omega)])
theorem gy_bD {n r0 : Nat} (hn : n ≤ 4) (h0 : r0 < n) (r : Nat) (hr : r < 5) : gz_bit ((gy_mk n &&& (((1 : Int32) <<< (nI r0 &&& 31)) ^^^ (-1))) ||| 16) r ↔ (r < n ∧ ¬ nI r = nI r0) ∨ r = 4 :=
  (gy_b4 n (by omega) r0 (by omega) r hr).trans (by rw [nI_eq (a := r) (b := r0) (by omega) (by omega)])
theorem i_vc_spare {k : Nat} {u : SX} {v : SY} (I : i_Rel k u v) (hk : k + 4 ≤ 2048) (v1 : Int32) : wpX_spare (fun r u' => wpY_spare (fun r' v' => r' = r ∧ i_Rel (k + 4) u' v') v v1) u v1 := by
  obtain ⟨rc, lsq, lsp, C, β, ρ⟩ := u
  obtain ⟨fc, ff, fl, D⟩ := v
  obtain ⟨n, w, hw, h1, hC, h2, hD⟩ := I
  dsimp only at h1 hC h2 hD
  subst h1 h2
  have hn := hw.1
  unfold wpX_spare
  dsimp only
  rcases gz_rn v1 (n := n) (by omega) with ⟨r, hr, rfl⟩ | hr
  · refine gx_row1 hr (by omega) (br_f (by decide) (gx_span hw hC ?_))
    intro β' ρ' a p q b s c hb hs hH
    have hB := gz_bB hw hs hH
    have w0 := hw.2 (3 * r) (by omega)
    have w1 := hw.2 (3 * r + 1) (by omega)
    have w2 := hw.2 (3 * r + 2) (by omega)
    have e0 : (nI (3 * r)).toNatClampNeg = 3 * r := gx_cl (by omega)
    have e1 : (nI (3 * r) + 1).toNatClampNeg = 3 * r + 1 := gx_ad (b := 1) (by omega)
    have e2 : (nI (3 * r) + 2).toNatClampNeg = 3 * r + 2 := gx_ad (b := 2) (by omega)
    have goY : ∀ (t : Int32) (ρ2 : Nat → Int64), (gz_Sp (gz_B a p q b s c) (gz_ro w r) → t = 1) → (¬ gz_Sp (gz_B a p q b s c) (gz_ro w r) → t = 0) →
        wpY_spare (fun r' v' => r' = t ∧ i_Rel (k + 4) (nI n, lsq, lsp, C, β', ρ2) v') (nI n, ff, fl, D) (nI r) := by
      intro t ρ2 t1 t0
      obtain ⟨c0, v0⟩ := gy_c0 hw hD hr
      obtain ⟨c1, v1⟩ := gy_c3 (j := 1) hw hD hr (by decide)
      obtain ⟨c2, v2⟩ := gy_c3 (j := 2) hw hD hr (by decide)
      have c1' : D (3 * nI r + 1).toNatClampNeg = gz_i (w (3 * r + 1)) := c1
      have c2' : D (3 * nI r + 2).toNatClampNeg = gz_i (w (3 * r + 2)) := c2
      refine br_f (nI_pos (by omega)) (br_t (nI_lt hr (by omega)) ⟨v0, v1, v2, ?_⟩)
      rw [c0, c1', c2']
      refine gy_put hw hD (by omega) (by omega) (by omega) ?_
      intro D' hD' h4
      refine gy_all (nm_e ?_)
      refine gy_ordW (lo := nI r) (cols := 3) hw hD' h4 (by omega) (by omega) (by omega) (gy_bC hn hr) (gy_bD hn hr) (by decide) (by decide) (fun o => ?_) (fun e e1 e2 o => ?_)
      · rw [gz_pr3, gz_pj3] at o
        refine br_f (by decide) ⟨(t0 (fun hm => ?_)).symm, gz_mk hw hC hD'⟩
        exact absurd ((gz_Or1 o).1 ((hs _).1 hm)) (by decide)
      · rw [gz_pr3, gz_pj3] at o
        exact gz_be e 1 (fun ee => ⟨(t1 ((hs _).2 ((gz_Or1 o).2 ee))).symm, gz_mk hw hC hD'⟩) (fun ee => ⟨(t0 (fun hm => ee ((gz_Or1 o).1 ((hs _).1 hm)))).symm, gz_mk hw hC hD'⟩)
    refine nm_r (gx_3c r) ⟨vp_in_nI (by omega) (by omega), gx_vi (b := 1) (by omega) (by omega), gx_vi (b := 2) (by omega) (by omega), ?_⟩
    dsimp only
    rw [e0, e1, e2, hC (3 * r) (by omega), hC (3 * r + 1) (by omega), hC (3 * r + 2) (by omega)]
    refine gx_con hb hH hB (by omega) (by omega) (by omega) (fun hm ρ2 => ⟨rfl, ?_⟩) (fun hm ρ2 => ⟨rfl, ?_⟩)
    · exact goY 1 ρ2 (fun _ => rfl) (fun hn => absurd hm hn)
    · exact goY 0 ρ2 (fun hn => absurd hn hm) (fun _ => rfl)
  · refine gx_row0 hr (br_t rfl ?_)
    rcases hr with hr | ⟨hr1, hr2⟩
    · exact br_t hr ⟨rfl, gz_mk hw hC hD⟩
    · exact br_f hr1 (br_f (fun h => absurd hr2 (Int32.not_le.2 h)) ⟨rfl, gz_mk hw hC hD⟩)
