/-! X: the least multiple of a point, place by place -/
def gx_mr (f : Int64) (ρ : Nat → Int64) : Nat → Int64 := fun j => if j < 3 then ρ j * f else ρ j
theorem gx_mul {post : SX → Prop} {rc lsq lsp : Int32} {C : Nat → Int32} {β ρ : Nat → Int64} {f : Int64} (h : post (rc, lsq, lsp, C, β, gx_mr f ρ)) :
    wpX_multiplyRest post (rc, lsq, lsp, C, β, ρ) f := by
  refine loop_0 (fun n k (s : Nat → Int64) => wX_multiplyRest_2 post f rc lsq lsp n (nI k) C β s)
    (fun k s => ∀ j, s j = if j < k then ρ j * f else ρ j) 3 ρ (fun j => (if_neg (by omega)).symm) ?_ ?_
  · intro n s hs
    have e : s = gx_mr f ρ := funext hs
    rw [e]
    exact br_t (by decide) h
  · intro n k s hk hs K
    have e2 : (nI k).toNatClampNeg = k := gx_cl (by omega)
    have v2 : vp_in (nI k) 3 := vp_in_nI hk (by omega)
    refine br_f (nI_ge (b := 3) hk (by decide)) ⟨v2, v2, nm_e (nm_r (nI_1 k) (K _ (fun j => ?_)))⟩
    rw [e2]
    by_cases hj : j = k
    · subst hj
      rw [pk_uLs, if_pos (by omega), hs, if_neg (by omega)]
    · rw [pk_uLn hj, hs]
      by_cases hq : j < k
      · rw [if_pos hq, if_pos (by omega)]
      · rw [if_neg hq, if_neg (by omega)]
theorem gx_87 {post : Int32 → SX → Prop} {J : Int64 → Int32 → Int32 → Int32 → Int32 → (Nat → Int32) → (Nat → Int64) → (Nat → Int64) → Prop} {rc lsq lsp : Int32} {C : Nat → Int32} {β ρ : Nat → Int64}
    {v d f k m : Int} (c : Nat) (hc : c < 3) (hv : ρ c = gz_l v) (hd : d ≠ 0) (hk : f * v = k * d) (hb : (f * v).natAbs < 4611686018427387904) (hdb : d.natAbs < 4294967296)
    (h : ∀ ρ', (∀ j, c ≤ j → j < 3 → ρ' j = ρ j * gz_l f - gz_l k * β (3 * c + j)) → J (gz_l (m * f)) (nI (c + 1)) rc lsq lsp C β ρ') :
    wX_leastMultiple_87 post J (gz_l m) (nI c) (gz_l d) (gz_l f) rc lsq lsp C β ρ := by
  have e2 : (nI c).toNatClampNeg = c := gx_cl (by omega)
  have vi : vp_in (nI c) 3 := vp_in_nI hc (by omega)
  have dne2 : ¬ gz_l d = 0 := fun e => hd ((gz_lE (b := 0)).1 e)
  refine nm_r (gz_lm m f) (gx_mul ?_)
  refine ⟨vi, dne2, ?_⟩
  have ed : gx_mr (gz_l f) ρ (nI c).toNatClampNeg / gz_l d = gz_l k := by
    rw [e2]
    have e3 : gx_mr (gz_l f) ρ c = gz_l (f * v) := by
      rw [show gx_mr (gz_l f) ρ c = ρ c * gz_l f from if_pos hc, hv, gz_lm, Int.mul_comm]
    rw [e3, gz_lD (a := f * v) (b := d), hk, Int.mul_tdiv_cancel k hd]
  rw [ed]
  refine gx_tfr c hc ?_
  refine nm_r (nI_1 c) (h _ (fun j h1 h2 => ?_))
  rw [gx_fi ⟨h1, h2⟩, show gx_mr (gz_l f) ρ j = ρ j * gz_l f from if_pos h2]
theorem gx_52 {post : Int32 → SX → Prop} {J : Int64 → Int32 → Int32 → Int32 → Int32 → (Nat → Int32) → (Nat → Int64) → (Nat → Int64) → Prop} {rc lsq lsp : Int32} {C : Nat → Int32} {β ρ : Nat → Int64}
    {v d : Int} {x4 : Int64} (c : Nat) (hc : c < 3) (hv : ρ c = gz_l v) (hd : 0 < d) (hdb : d ≤ 4374) (hvb : v.natAbs ≤ 281474976710656)
    (h : ∀ f : Int, 0 < f → f ≤ d → d ∣ f * v → (∀ e : Int, 0 < e → e < f → ¬ d ∣ e * v) → wX_leastMultiple_87 post J x4 (nI c) (gz_l d) (gz_l f) rc lsq lsp C β ρ) :
    ∃ n, wX_leastMultiple_52 post J x4 (nI c) (gz_l d) rc lsq lsp C β ρ n 1 := by
  have e2 : (nI c).toNatClampNeg = c := gx_cl (by omega)
  have vi : vp_in (nI c) 3 := vp_in_nI hc (by omega)
  have dne2 : ¬ gz_l d = 0 := fun e => by
    have := (gz_lE (b := 0)).1 e
    omega
  have hr : ρ (nI c).toNatClampNeg = gz_l v := by rw [e2, hv]
  refine pk_loop (fun n i (_ : Unit) => wX_leastMultiple_52 post J x4 (nI c) (gz_l d) rc lsq lsp C β ρ n (gz_l (i : Int))) (fun i _ => 1 ≤ i ∧ ∀ e : Int, 0 < e → e < (i : Int) → ¬ d ∣ e * v) d.toNat 1 () (by omega) ?_ ?_ ?_
  · exact ⟨by omega, fun e h1 h2 => absurd h1 (by omega)⟩
  · intro n _ ⟨h1, h2⟩
    have ed : (d.toNat : Int) = d := by omega
    rw [ed] at h2 ⊢
    refine gz_Ll d d (fun _ => h d hd (Int.le_refl d) ⟨v, rfl⟩ h2) (fun hlt => absurd hlt (by omega))
  · intro n i _ hi ⟨h1, h2⟩ K
    have hm : gz_l (i : Int) * gz_l v = gz_l ((i : Int) * v) := gz_lm _ _
    have pb := gz_pm (show ((i : Int)).natAbs ≤ 4374 by omega) hvb
    have em : gz_l (i : Int) * ρ (nI c).toNatClampNeg - gz_l (i : Int) * ρ (nI c).toNatClampNeg / gz_l d * gz_l d = gz_l (((i : Int) * v).tmod d) := by
      rw [hr, hm]
      generalize (i : Int) * v = t at *
      exact gz_lR
    have tb : (((i : Int) * v).tmod d).natAbs < 4294967296 := by
      rw [Int.natAbs_tmod]
      have := Nat.mod_lt ((i : Int) * v).natAbs (show 0 < d.natAbs by omega)
      omega
    refine gz_Ll d (i : Int) (fun hle => absurd hle (by omega)) (fun hlt => ⟨vi, dne2, gz_Le (((i : Int) * v).tmod d) 0 (fun h0 => ?_) (fun h0 => ?_) em⟩)
    · exact h i (by omega) (by omega) (Int.dvd_of_tmod_eq_zero h0) h2
    · refine nm_r (show gz_l (i : Int) + 1 = gz_l ((i + 1 : Nat) : Int) from gz_la i 1) (K () ⟨by omega, fun e e1 e3 => ?_⟩)
      by_cases hei : e = (i : Int)
      · rw [hei]
        exact fun hdv => h0 (Int.tmod_eq_zero_of_dvd hdv)
      · exact h2 e e1 (by omega)
/-- one place: nothing to do, no multiple at all, or a factor -/
theorem gx_lst {post : Int32 → SX → Prop} {rc lsq lsp : Int32} {C : Nat → Int32} {β ρ : Nat → Int64} {v d m : Int} {n : Nat} (c : Nat) (hc : c < 3) (hv : ρ c = gz_l v) (hd : β (3 * c + c) = gz_l d)
    (h0d : 0 ≤ d) (hdb : d ≤ 4374) (hvb : v.natAbs ≤ 281474976710656)
    (hZ : v = 0 → wX_leastMultiple_13 post n (gz_l m) (nI (c + 1)) rc lsq lsp C β ρ)
    (hN : v ≠ 0 → d = 0 → post (-1000000) (rc, lsq, lsp, C, β, ρ))
    (hF : ∀ f k : Int, v ≠ 0 → d ≠ 0 → 0 < f → f ≤ d → f * v = k * d → (∀ e : Int, 0 < e → e < f → ¬ d ∣ e * v) →
      ∀ ρ', (∀ j, c ≤ j → j < 3 → ρ' j = ρ j * gz_l f - gz_l k * β (3 * c + j)) → wX_leastMultiple_13 post n (gz_l (m * f)) (nI (c + 1)) rc lsq lsp C β ρ') :
    wX_leastMultiple_13 post (n + 1) (gz_l m) (nI c) rc lsq lsp C β ρ := by
  have e2 : (nI c).toNatClampNeg = c := gx_cl (by omega)
  have hr : ρ (nI c).toNatClampNeg = gz_l v := by rw [e2, hv]
  have vi : vp_in (nI c) 3 := vp_in_nI hc (by omega)
  refine br_f (nI_ge (b := 3) hc (by decide)) (gx_sa hc ?_)
  rw [hd]
  refine ⟨vi, gz_Le v 0 (fun h0 => nm_r (nI_1 c) (hZ h0)) (fun hne => gz_Le d 0 (fun d0 => hN hne d0) (fun dne => ?_)) hr⟩
  refine gx_52 c hc hv (by omega) hdb hvb ?_
  intro f f1 f2 ⟨k, f3⟩ f4
  have pb := gz_pm (show f.natAbs ≤ 4374 by omega) hvb
  have fk : f * v = k * d := by rw [f3, Int.mul_comm]
  exact gx_87 c hc hv dne fk (by omega) (by omega) (fun ρ' hρ => hF f k hne dne f1 f2 fk f4 ρ' hρ)
theorem gx_kb {f v k d : Int} {N : Nat} (h : f * v = k * d) (hd : d ≠ 0) (hb : (f * v).natAbs ≤ N) : k.natAbs ≤ N := by
  rw [h, Int.mul_comm] at hb
  exact gz_le1 hb hd
theorem gx_sf {x y : Int64} {p f k z : Int} (hx : x = gz_l p) (hy : y = gz_l z) : x * gz_l f - gz_l k * y = gz_l (f * p - k * z) := by
  rw [hx, hy, gz_lm, gz_lm, gz_ls, Int.mul_comm p f]
theorem gx_lm {post : Int32 → SX → Prop} {rc lsq lsp : Int32} {C : Nat → Int32} {β ρ : Nat → Int64} {G : gz_V → Prop} {a p q b s c x y z : Int} (hb : gz_bs β a p q b s c) (hH : gz_H a p q b s c) (hB : gz_Bd a p q b s c)
    (hs : ∀ v, gz_Sp (gz_B a p q b s c) v ↔ gz_Sp G v)
    (hx : x.natAbs ≤ 100) (hy : y.natAbs ≤ 100) (hz : z.natAbs ≤ 100)
    (h0 : gz_Or G (x, y, z) 0 → ∀ ρ', post (-1000000) (rc, lsq, lsp, C, β, ρ'))
    (h1 : ∀ m, 0 < m → m ≤ 6377292 → gz_Or G (x, y, z) m → ∀ ρ', post (gz_i m) (rc, lsq, lsp, C, β, ρ')) :
    wpX_leastMultiple post (rc, lsq, lsp, C, β, ρ) (gz_i x) (gz_i y) (gz_i z) := by
  obtain ⟨b0, b1, b2, b3, b4, b5, b6, b7, b8⟩ := hb
  obtain ⟨k1, k2, k3, k4, k5, k6⟩ := hB
  obtain ⟨hZ, g1, g2, g3, _, _⟩ := hH
  have om0 : gz_Om G (x, y, z) 1 (gz_pl (gz_pl (gz_pl gz_N (0, 0, c)) (0, b, s)) (a, p, q)) (x, y, z) := fun t =>
    ((hs _).symm.trans (gz_BP _)).trans (gz_Om0 _ _ t)
  have z0 : (a, p, q).1 = 0 → (a, p, q) = ((0, 0, 0) : gz_V) := fun h => gz_ext h (hZ.1 h).1 (hZ.1 h).2
  have z1 : ((0, b, s) : gz_V).2.1 = 0 → (0, b, s) = ((0, 0, 0) : gz_V) := fun h => gz_ext rfl h (hZ.2 h)
  have z2 : ((0, 0, c) : gz_V).2.2 = 0 → (0, 0, c) = ((0, 0, 0) : gz_V) := fun h => gz_ext rfl rfl h
  /- the third place -/
  have S2 : ∀ (m zz : Int) (ρ2 : Nat → Int64), 0 < m → m ≤ 1458 → zz.natAbs ≤ 281474976710656 → ρ2 2 = gz_l zz → gz_Om G (x, y, z) m (gz_pl gz_N (0, 0, c)) (0, 0, zz) →
      wX_leastMultiple_13 post 2 (gz_l m) (nI 2) rc lsq lsp C β ρ2 := by
    intro m zz ρ2 hm1 hm2 hzz hr om
    refine gx_lst 2 (by decide) hr b8 g3 k3 hzz (fun h => ?_) (fun hn hd => ?_) (fun f k hn hd f1 f2 f3 f4 ρ3 e3 => ?_)
    · have om2 := gz_Omz (fun u => u.2.2) (fun _ _ _ => rfl) (fun _ _ => rfl) gz_f3 z2 om h
      have o := gz_Om3 om2 (by omega) (by rw [h])
      refine br_t (by decide) ?_
      rw [gz_li]
      exact h1 m hm1 (by omega) o _
    · exact h0 (gz_Omn (fun u => u.2.2) (fun _ _ _ => rfl) (fun _ _ => rfl) gz_f3 hd om hn) _
    · have om2 := gz_Oms (k := k) (fun u => u.2.2) (fun _ _ _ => rfl) (fun _ _ => rfl) gz_f3 hd om f1 f3 f4
      have mf : m * f ≤ 1458 * 4374 := Int.mul_le_mul hm2 (by omega) (by omega) (by omega)
      have mp : 0 < m * f := Int.mul_pos hm1 f1
      have o := gz_Om3 om2 (by omega) (by apply gz_ext <;> simp only [gz_ad, gz_sm] <;> grind)
      refine br_t (by decide) ?_
      rw [gz_li]
      exact h1 (m * f) mp (by omega) o _
  /- the second place -/
  have S1 : ∀ (m yy zz : Int) (ρ1 : Nat → Int64), 0 < m → m ≤ 9 → yy.natAbs ≤ 146700 → zz.natAbs ≤ 23766300 → ρ1 1 = gz_l yy → ρ1 2 = gz_l zz → gz_Om G (x, y, z) m (gz_pl (gz_pl gz_N (0, 0, c)) (0, b, s)) (0, yy, zz) →
      wX_leastMultiple_13 post 3 (gz_l m) (nI 1) rc lsq lsp C β ρ1 := by
    intro m yy zz ρ1 hm1 hm2 hyy hzz hr1 hr2 om
    refine gx_lst 1 (by decide) hr1 b4 g2 (by omega) (by omega) (fun h => ?_) (fun hn hd => ?_) (fun f k hn hd f1 f2 f3 f4 ρ3 e3 => ?_)
    · have om2 := gz_Omz (fun u => u.2.1) (fun _ _ _ => rfl) (fun _ _ => rfl) gz_f2 z1 om h
      rw [h] at om2
      exact S2 m zz ρ1 hm1 (by omega) (by omega) hr2 om2
    · exact h0 (gz_Omn (fun u => u.2.1) (fun _ _ _ => rfl) (fun _ _ => rfl) gz_f2 hd om hn) _
    · have om2 := gz_Oms (k := k) (fun u => u.2.1) (fun _ _ _ => rfl) (fun _ _ => rfl) gz_f2 hd om f1 f3 f4
      have mf : m * f ≤ 9 * 162 := Int.mul_le_mul hm2 (by omega) (by omega) (by omega)
      have mp : 0 < m * f := Int.mul_pos hm1 f1
      have fy := gz_pm (show f.natAbs ≤ 162 by omega) hyy
      have fz := gz_pm (show f.natAbs ≤ 162 by omega) hzz
      have kb := gx_kb f3 hd fy
      have ks := gz_pm kb k6
      have ev : gz_ad (gz_sm f (0, yy, zz)) (-k) (0, b, s) = (0, 0, f * zz - k * s) := by apply gz_ext <;> simp only [gz_ad, gz_sm] <;> grind
      rw [ev] at om2
      refine S2 (m * f) (f * zz - k * s) ρ3 mp (by omega) ?_ ((e3 2 (by decide) (by decide)).trans (gx_sf hr2 b5)) om2
      generalize f * zz = t1 at *
      generalize k * s = t2 at *
      omega
  unfold wpX_leastMultiple
  dsimp only
  refine nm_e (nm_e (nm_e ⟨4, ?_⟩))
  obtain ⟨r0, r1, r2⟩ := gx_pr3 (ρ := ρ) (x := x) (y := y) (z := z) (by omega) (by omega) (by omega)
  generalize vp_updL (vp_updL (vp_updL ρ 0 (gz_i x).toInt64) 1 (gz_i y).toInt64) 2 (gz_i z).toInt64 = ρ0 at r0 r1 r2
  refine gx_lst (m := 1) 0 (by decide) r0 b0 g1 (by omega) (by omega) (fun h => ?_) (fun hn hd => ?_) (fun f k hn hd f1 f2 f3 f4 ρ3 e3 => ?_)
  · have om2 := gz_Omz (fun u => u.1) (fun _ _ _ => rfl) (fun _ _ => rfl) gz_f1 z0 om0 h
    have om3 : gz_Om G (x, y, z) 1 (gz_pl (gz_pl gz_N (0, 0, c)) (0, b, s)) (0, y, z) := by
      have e : ((0, y, z) : gz_V) = (x, y, z) := gz_ext h.symm rfl rfl
      rw [e]
      exact om2
    exact S1 1 y z ρ0 (by omega) (by omega) (by omega) (by omega) r1 r2 om3
  · exact h0 (gz_Omn (fun u => u.1) (fun _ _ _ => rfl) (fun _ _ => rfl) gz_f1 hd om0 hn) _
  · have om2 := gz_Oms (k := k) (fun u => u.1) (fun _ _ _ => rfl) (fun _ _ => rfl) gz_f1 hd om0 f1 f3 f4
    have fx := gz_pm (show f.natAbs ≤ 9 by omega) hx
    have fy := gz_pm (show f.natAbs ≤ 9 by omega) hy
    have fz := gz_pm (show f.natAbs ≤ 9 by omega) hz
    have kb := gx_kb f3 hd fx
    have kp := gz_pm kb k4
    have kq := gz_pm kb k5
    have ev : gz_ad (gz_sm f (x, y, z)) (-k) (a, p, q) = (0, f * y - k * p, f * z - k * q) := by apply gz_ext <;> simp only [gz_ad, gz_sm] <;> grind
    rw [ev] at om2
    have mf : 0 < 1 * f ∧ 1 * f ≤ 9 := by omega
    refine S1 (1 * f) (f * y - k * p) (f * z - k * q) ρ3 mf.1 mf.2 ?_ ?_ ((e3 1 (by decide) (by decide)).trans (gx_sf r1 b1)) ((e3 2 (by decide) (by decide)).trans (gx_sf r2 b2)) om2
    · generalize f * y = t1 at *
      generalize k * p = t2 at *
      omega
    · generalize f * z = t1 at *
      generalize k * q = t2 at *
      omega
