/-! X: whether the grid of the basis has a point -/
def gx_tf (c : Nat) (t : Int64) (β ρ : Nat → Int64) : Nat → Int64 := fun j => if c ≤ j ∧ j < 3 then ρ j - t * β (3 * c + j) else ρ j
theorem gx_fi {c j : Nat} {t : Int64} {β ρ : Nat → Int64} (h : c ≤ j ∧ j < 3) : gx_tf c t β ρ j = ρ j - t * β (3 * c + j) := if_pos h
theorem gx_fo {c j : Nat} {t : Int64} {β ρ : Nat → Int64} (h : ¬ (c ≤ j ∧ j < 3)) : gx_tf c t β ρ j = ρ j := if_neg h
theorem gx_tfr {post : SX → Prop} {rc lsq lsp : Int32} {C : Nat → Int32} {β ρ : Nat → Int64} {t : Int64} (c : Nat) (hc : c < 3) (h : post (rc, lsq, lsp, C, β, gx_tf c t β ρ)) :
    wpX_takeFromRest post (rc, lsq, lsp, C, β, ρ) (nI c) t := by
  refine pk_loop (fun n k (s : Nat → Int64) => wX_takeFromRest_3 post (nI c) t rc lsq lsp n (nI k) C β s)
    (fun k s => c ≤ k ∧ ∀ j, s j = if c ≤ j ∧ j < k then ρ j - t * β (3 * c + j) else ρ j) 3 c ρ (by omega) ⟨Nat.le_refl c, fun j => (if_neg (by omega)).symm⟩ ?_ ?_
  · intro n s ⟨_, hs⟩
    have e : s = gx_tf c t β ρ := funext hs
    rw [e]
    exact br_t (by decide) h
  · intro n k s hk ⟨h0, hs⟩ K
    have e1 : (3 * nI c + nI k).toNatClampNeg = 3 * c + k := gx_ad3 (by omega)
    have e2 : (nI k).toNatClampNeg = k := gx_cl (by omega)
    have v1 : vp_in (3 * nI c + nI k) 9 := gx_vi3 (by omega) (by omega)
    have v2 : vp_in (nI k) 3 := vp_in_nI hk (by omega)
    refine br_f (nI_ge (b := 3) hk (by decide)) ⟨v2, v1, v2, nm_e (nm_r (nI_1 k) (K _ ⟨by omega, fun j => ?_⟩))⟩
    rw [e1, e2]
    by_cases hj : j = k
    · subst hj
      rw [pk_uLs, if_pos (by omega), hs, if_neg (by omega)]
    · rw [pk_uLn hj, hs]
      by_cases hq : c ≤ j ∧ j < k
      · rw [if_pos hq, if_pos (by omega)]
      · rw [if_neg hq, if_neg (by omega)]
theorem gx_l0 (x y : Int64) : x = x - gz_l 0 * y := by
  show x = x - 0 * y
  rw [Int64.zero_mul, Int64.sub_zero]
theorem gx_cst {post : Int32 → SX → Prop} {rc lsq lsp : Int32} {C : Nat → Int32} {β ρ : Nat → Int64} {v d : Int} {n : Nat} (c : Nat) (hc : c < 3) (hv : ρ c = gz_l v) (hd : β (3 * c + c) = gz_l d)
    (hvb : v.natAbs < 4611686018427387904) (hdb : d.natAbs < 4294967296)
    (hA : d ∣ v → ∀ ρ', (∀ j, c ≤ j → j < 3 → ρ' j = ρ j - gz_l (v.tdiv d) * β (3 * c + j)) → wX_contains_10 post n (nI (c + 1)) rc lsq lsp C β ρ')
    (hB : ¬ d ∣ v → post 0 (rc, lsq, lsp, C, β, ρ)) : wX_contains_10 post (n + 1) (nI c) rc lsq lsp C β ρ := by
  have e2 : (nI c).toNatClampNeg = c := gx_cl (by omega)
  have hr : ρ (nI c).toNatClampNeg = gz_l v := by rw [e2, hv]
  have vi : vp_in (nI c) 3 := vp_in_nI hc (by omega)
  refine br_f (nI_ge (b := 3) hc (by decide)) (gx_sa hc ?_)
  rw [hd]
  refine ⟨vi, gz_Le v 0 (fun h0 => ?_) (fun hne => ?_) hr⟩
  · refine nm_r (nI_1 c) (hA (by rw [h0]; exact Int.dvd_zero d) ρ (fun j _ _ => ?_))
    rw [h0, Int.zero_tdiv]
    exact gx_l0 _ _
  · refine gz_Le d 0 (fun d0 => hB (fun hdv => hne (by rw [d0] at hdv; exact Int.zero_dvd.1 hdv))) (fun dne => ?_)
    have dne2 : ¬ gz_l d = 0 := fun e => dne ((gz_lE (b := 0)).1 e)
    have em : ρ (nI c).toNatClampNeg - ρ (nI c).toNatClampNeg / gz_l d * gz_l d = gz_l (v.tmod d) := by
      rw [hr]
      exact gz_lR
    have tb : (v.tmod d).natAbs < 4294967296 := by
      rw [Int.natAbs_tmod]
      have := Nat.mod_lt v.natAbs (show 0 < d.natAbs by omega)
      omega
    refine ⟨vi, dne2, gz_Le (v.tmod d) 0 (fun h0 => ?_) (fun h0 => ?_) em⟩
    · have hdv : d ∣ v := Int.dvd_of_tmod_eq_zero h0
      refine ⟨vi, dne2, ?_⟩
      have ed : ρ (nI c).toNatClampNeg / gz_l d = gz_l (v.tdiv d) := by
        rw [hr]
        exact gz_lD
      rw [ed]
      refine gx_tfr c hc ?_
      exact nm_r (nI_1 c) (hA hdv _ (fun j h1 h2 => gx_fi ⟨h1, h2⟩))
    · exact hB (fun hdv => h0 (Int.tmod_eq_zero_of_dvd hdv))
theorem gx_tq {v d k : Int} (h : v = k * d) : (v.tdiv d).natAbs ≤ v.natAbs := by
  rw [gz_e2]
  exact Nat.div_le_self _ _
/-- the bounds of a basis that is in its ranges -/
def gz_Bd (a p q b s c : Int) : Prop := a ≤ 9 ∧ b ≤ 162 ∧ c ≤ 4374 ∧ p.natAbs ≤ 162 ∧ q.natAbs ≤ 26406 ∧ s.natAbs ≤ 4374
theorem gx_pr3 {ρ : Nat → Int64} {x y z : Int} (hx : x.natAbs ≤ 5000) (hy : y.natAbs ≤ 5000) (hz : z.natAbs ≤ 5000) :
    gz_rs (vp_updL (vp_updL (vp_updL ρ 0 (gz_i x).toInt64) 1 (gz_i y).toInt64) 2 (gz_i z).toInt64) x y z := by
  refine ⟨?_, ?_, ?_⟩
  · exact (pk_uLn (by decide)).trans ((pk_uLn (by decide)).trans (pk_uLs.trans gz_il))
  · exact (pk_uLn (by decide)).trans (pk_uLs.trans gz_il)
  · exact pk_uLs.trans gz_il
theorem gx_con {post : Int32 → SX → Prop} {rc lsq lsp : Int32} {C : Nat → Int32} {β ρ : Nat → Int64} {a p q b s c x y z : Int} (hb : gz_bs β a p q b s c) (hH : gz_H a p q b s c) (hB : gz_Bd a p q b s c)
    (hx : x.natAbs ≤ 5000) (hy : y.natAbs ≤ 5000) (hz : z.natAbs ≤ 5000)
    (h1 : gz_Sp (gz_B a p q b s c) (x, y, z) → ∀ ρ', post 1 (rc, lsq, lsp, C, β, ρ')) (h0 : ¬ gz_Sp (gz_B a p q b s c) (x, y, z) → ∀ ρ', post 0 (rc, lsq, lsp, C, β, ρ')) :
    wpX_contains post (rc, lsq, lsp, C, β, ρ) (gz_i x) (gz_i y) (gz_i z) := by
  obtain ⟨b0, b1, b2, b3, b4, b5, b6, b7, b8⟩ := hb
  obtain ⟨k1, k2, k3, k4, k5, k6⟩ := hB
  obtain ⟨hZ, g1, g2, g3, _, _⟩ := hH
  have hin := gz_in (c := c) (x := x) (y := y) (z := z) hZ
  unfold wpX_contains
  dsimp only
  refine nm_e (nm_e (nm_e ⟨4, ?_⟩))
  obtain ⟨r0, r1, r2⟩ := gx_pr3 (ρ := ρ) hx hy hz
  generalize vp_updL (vp_updL (vp_updL ρ 0 (gz_i x).toInt64) 1 (gz_i y).toInt64) 2 (gz_i z).toInt64 = ρ0 at r0 r1 r2
  refine gx_cst 0 (by decide) r0 b0 (by omega) (by omega) (fun hd0 ρ1 e1 => ?_) (fun hn => h0 (fun hm => hn (hin.1 hm).1) _)
  have t0 : (x.tdiv a).natAbs ≤ x.natAbs := by rw [gz_e2]; exact Nat.div_le_self _ _
  have m1 := gz_pm (show (x.tdiv a).natAbs ≤ 5000 by omega) k4
  have m2 := gz_pm (show (x.tdiv a).natAbs ≤ 5000 by omega) k5
  have r11 : ρ1 1 = gz_l (y - x.tdiv a * p) := (e1 1 (by decide) (by decide)).trans (gx_s r1 b1)
  have r12 : ρ1 2 = gz_l (z - x.tdiv a * q) := (e1 2 (by decide) (by decide)).trans (gx_s r2 b2)
  have y1b : (y - x.tdiv a * p).natAbs ≤ 815000 := by
    generalize x.tdiv a * p = t at *
    omega
  have z1b : (z - x.tdiv a * q).natAbs ≤ 132035000 := by
    generalize x.tdiv a * q = t at *
    omega
  refine gx_cst 1 (by decide) r11 b4 (by omega) (by omega) (fun hd1 ρ2 e2 => ?_) (fun hn => h0 (fun hm => hn (hin.1 hm).2.1) _)
  have t1 : ((y - x.tdiv a * p).tdiv b).natAbs ≤ (y - x.tdiv a * p).natAbs := by rw [gz_e2]; exact Nat.div_le_self _ _
  have m3 := gz_pm (show ((y - x.tdiv a * p).tdiv b).natAbs ≤ 815000 by omega) k6
  have r22 : ρ2 2 = gz_l (z - x.tdiv a * q - (y - x.tdiv a * p).tdiv b * s) := (e2 2 (by decide) (by decide)).trans (gx_s r12 b5)
  have z2b : (z - x.tdiv a * q - (y - x.tdiv a * p).tdiv b * s).natAbs < 4294967296000 := by
    generalize (y - x.tdiv a * p).tdiv b * s = t at *
    generalize x.tdiv a * q = t2 at *
    omega
  refine gx_cst 2 (by decide) r22 b8 (by omega) (by omega) (fun hd2 ρ3 e3 => ?_) (fun hn => h0 (fun hm => hn (hin.1 hm).2.2) _)
  exact br_t (by decide) (h1 (hin.2 ⟨hd0, hd1, hd2⟩) _)
